/-! segments: what suffices for a run from there on (by wip/whole/gen3.py) -/
theorem zp243 : zprog.getD 243 [] = zk243 := rfl
theorem x243_0 {w : zWt} {d : Nat} {H : zHt} {K : Int → zHt → Prop} {l1 : Int} {l2 : Int} {l3 : Int}
    (h : zclI w d 173 [zL l3, zL 0, zL 3] H (fun x2 H1 => (x2 = 0 → zgo w (d + 1) 243 69 [zR 81, zI l1, zI l2, zI l3, zJ, zJ] [zI 1, zR 81] H1 (zQI K)) ∧ (¬ x2 = 0 → zclI w d 173 [zL l2, zL 0, zL 3] H1 (fun x6 H5 => (x6 = 0 → zgo w (d + 1) 243 69 [zR 81, zI l1, zI l2, zI l3, zJ, zJ] [zI 1, zR 81] H5 (zQI K)) ∧ (¬ x6 = 0 → zclI w d 223 [zR 81, zI l1] H5 (fun x11 H10 => (¬ x11 = 0 → (¬ l2 = (H10 82 9) → zgo w (d + 1) 243 69 [zR 81, zI l1, zI l2, zI l3, zJ, zJ] [zI 0, zR 81] H10 (zQI K)) ∧ (l2 = (H10 82 9) → zgo w (d + 1) 243 69 [zR 81, zI l1, zI l2, zI l3, zJ, zJ] [zI 4, zR 81] H10 (zQI K))) ∧ (x11 = 0 → zgo w (d + 1) 243 69 [zR 81, zI l1, zI l2, zI l3, zJ, zJ] [zI 2, zR 81] H10 (zQI K)))))))) :
    zclI w (d + 1) 243 [zR 81, zI l1, zI l2, zI l3] H K := by
  show zgo w (d + 1) 243 0 [zR 81, zI l1, zI l2, zI l3, zJ, zJ] [] H (zQI K)
  refine g_il zp243 rfl rfl rfl ?_
  refine g_i2l zp243 rfl rfl ?_
  refine g_lc zp243 rfl rfl ?_
  refine g_lc zp243 rfl rfl ?_
  refine g_callI (as := [zL l3, zL 0, zL 3]) (rest := []) zp243 rfl rfl (Nat.succ_pos _) rfl rfl (Nat.le_of_ble_eq_true rfl) (Nat.le_of_ble_eq_true rfl) rfl rfl h (fun x2 H1 h => ?_)
  refine g_if zp243 rfl rfl zc0 (fun c3 => ?_) (fun c3 => ?_)
  · replace h := h.1 c3
    refine g_ic zp243 rfl rfl ?_
    refine g_is (ls' := [zR 81, zI l1, zI l2, zI l3, zI 0, zJ]) zp243 rfl rfl (Nat.le_of_ble_eq_true rfl) rfl ?_
    refine g_al zp243 rfl rfl rfl (by decide) ?_
    refine g_il zp243 rfl rfl rfl ?_
    refine g_if zp243 rfl rfl zc1 (fun c4 => ?_) (fun c4 => ?_)
    · exact absurd c4 (by decide)
    · refine g_ic zp243 rfl rfl ?_
      refine g_goto zp243 rfl ?_
      exact g_weak (ls' := [zR 81, zI l1, zI l2, zI l3, zJ, zJ]) ⟨Or.inr rfl, Or.inr rfl, Or.inr rfl, Or.inr rfl, Or.inl rfl, Or.inr rfl, trivial⟩ h
  · replace h := h.2 c3
    refine g_il zp243 rfl rfl rfl ?_
    refine g_i2l zp243 rfl rfl ?_
    refine g_lc zp243 rfl rfl ?_
    refine g_lc zp243 rfl rfl ?_
    refine g_callI (as := [zL l2, zL 0, zL 3]) (rest := []) zp243 rfl rfl (Nat.succ_pos _) rfl rfl (Nat.le_of_ble_eq_true rfl) (Nat.le_of_ble_eq_true rfl) rfl rfl h (fun x6 H5 h => ?_)
    refine g_if zp243 rfl rfl zc0 (fun c7 => ?_) (fun c7 => ?_)
    · replace h := h.1 c7
      refine g_ic zp243 rfl rfl ?_
      refine g_is (ls' := [zR 81, zI l1, zI l2, zI l3, zI 0, zJ]) zp243 rfl rfl (Nat.le_of_ble_eq_true rfl) rfl ?_
      refine g_al zp243 rfl rfl rfl (by decide) ?_
      refine g_il zp243 rfl rfl rfl ?_
      refine g_if zp243 rfl rfl zc1 (fun c8 => ?_) (fun c8 => ?_)
      · exact absurd c8 (by decide)
      · refine g_ic zp243 rfl rfl ?_
        refine g_goto zp243 rfl ?_
        exact g_weak (ls' := [zR 81, zI l1, zI l2, zI l3, zJ, zJ]) ⟨Or.inr rfl, Or.inr rfl, Or.inr rfl, Or.inr rfl, Or.inl rfl, Or.inr rfl, trivial⟩ h
    · replace h := h.2 c7
      refine g_ic zp243 rfl rfl ?_
      refine g_goto zp243 rfl ?_
      refine g_is (ls' := [zR 81, zI l1, zI l2, zI l3, zI 1, zJ]) zp243 rfl rfl (Nat.le_of_ble_eq_true rfl) rfl ?_
      refine g_al zp243 rfl rfl rfl (by decide) ?_
      refine g_il zp243 rfl rfl rfl ?_
      refine g_if zp243 rfl rfl zc1 (fun c9 => ?_) (fun c9 => ?_)
      · refine g_al zp243 rfl rfl rfl (by decide) ?_
        refine g_il zp243 rfl rfl rfl ?_
        refine g_callI (as := [zR 81, zI l1]) (rest := [zR 81]) zp243 rfl rfl (Nat.succ_pos _) rfl rfl (Nat.le_of_ble_eq_true rfl) (Nat.le_of_ble_eq_true rfl) rfl rfl h (fun x11 H10 h => ?_)
        refine g_if zp243 rfl rfl zc1 (fun c12 => ?_) (fun c12 => ?_)
        · replace h := h.1 c12
          refine g_il zp243 rfl rfl rfl ?_
          refine g_al zp243 rfl rfl rfl (by decide) ?_
          refine g_get (v := zR 82) zp243 rfl rfl rfl ⟨rfl, by decide, (by decide)⟩ rfl ?_
          refine g_ic zp243 rfl rfl ?_
          refine g_ald (v := zI (H10 82 9)) zp243 rfl rfl rfl rfl (by decide) rfl ?_
          refine g_icmp zp243 rfl rfl zc1 (fun c13 => ?_) (fun c13 => ?_)
          · replace h := h.1 c13
            refine g_ic zp243 rfl rfl ?_
            exact g_weak (ls' := [zR 81, zI l1, zI l2, zI l3, zJ, zJ]) ⟨Or.inr rfl, Or.inr rfl, Or.inr rfl, Or.inr rfl, Or.inl rfl, Or.inr rfl, trivial⟩ h
          · replace h := h.2 c13
            refine g_ic zp243 rfl rfl ?_
            refine g_goto zp243 rfl ?_
            exact g_weak (ls' := [zR 81, zI l1, zI l2, zI l3, zJ, zJ]) ⟨Or.inr rfl, Or.inr rfl, Or.inr rfl, Or.inr rfl, Or.inl rfl, Or.inr rfl, trivial⟩ h
        · replace h := h.2 c12
          refine g_ic zp243 rfl rfl ?_
          refine g_goto zp243 rfl ?_
          exact g_weak (ls' := [zR 81, zI l1, zI l2, zI l3, zJ, zJ]) ⟨Or.inr rfl, Or.inr rfl, Or.inr rfl, Or.inr rfl, Or.inl rfl, Or.inr rfl, trivial⟩ h
      · exact absurd c9 (by decide)
theorem x243_69 {w : zWt} {d : Nat} {H : zHt} {K : Int → zHt → Prop} {l1 : Int} {l2 : Int} {l3 : Int} {s1 : Int}
    (h : zclI w d 174 [zR 81, zI s1] H (fun x2 H1 => (¬ x2 = 0 → zclV w d 244 [zR 81, zI l1] H1 (fun H4 => (0 ≤ l1 ∧ l1 < 10) ∧ zclV w d 227 [zR 81, zI (H4 82 l1), zI l2] H4 (fun H7 => (l3 ≤ 0 → zgo w (d + 1) 243 136 [zR 81, zJ, zJ, zJ, zJ, zI 0] [] H7 (zQI K)) ∧ (0 < l3 → (¬ l3 = 1 → (¬ l3 = 2 → (0 ≤ (w32 ((H7 81 21) - 1)) ∧ (w32 ((H7 81 21) - 1)) < 101) ∧ K (H7 94 (w32 ((H7 81 21) - 1))) H7) ∧ (l3 = 2 → K (H7 81 22) H7)) ∧ (l3 = 1 → K (H7 81 21) H7))))) ∧ (x2 = 0 → K (-1) H1))) :
    zgo w (d + 1) 243 69 [zR 81, zI l1, zI l2, zI l3, zJ, zJ] [zI s1, zR 81] H (zQI K) := by
  refine g_callI (as := [zR 81, zI s1]) (rest := []) zp243 rfl rfl (Nat.succ_pos _) rfl rfl (Nat.le_of_ble_eq_true rfl) (Nat.le_of_ble_eq_true rfl) rfl rfl h (fun x2 H1 h => ?_)
  refine g_if zp243 rfl rfl zc1 (fun c3 => ?_) (fun c3 => ?_)
  · replace h := h.1 c3
    refine g_al zp243 rfl rfl rfl (by decide) ?_
    refine g_il zp243 rfl rfl rfl ?_
    refine g_callV (as := [zR 81, zI l1]) (rest := []) zp243 rfl rfl (Nat.succ_pos _) rfl rfl (Nat.le_of_ble_eq_true rfl) (Nat.le_of_ble_eq_true rfl) rfl rfl h (fun H4 h => ?_)
    refine g_al zp243 rfl rfl rfl (by decide) ?_
    refine g_al zp243 rfl rfl rfl (by decide) ?_
    refine g_get (v := zR 82) zp243 rfl rfl rfl ⟨rfl, by decide, (by decide)⟩ rfl ?_
    refine g_il zp243 rfl rfl rfl ?_
    obtain ⟨c6, h⟩ := h
    refine g_ald (v := zI (H4 82 l1)) zp243 rfl rfl rfl rfl c6 rfl ?_
    refine g_il zp243 rfl rfl rfl ?_
    refine g_callV (as := [zR 81, zI (H4 82 l1), zI l2]) (rest := []) zp243 rfl rfl (Nat.succ_pos _) rfl rfl (Nat.le_of_ble_eq_true rfl) (Nat.le_of_ble_eq_true rfl) rfl rfl h (fun H7 h => ?_)
    refine g_il zp243 rfl rfl rfl ?_
    refine g_if zp243 rfl rfl zc5 (fun c9 => ?_) (fun c9 => ?_)
    · replace h := h.1 c9
      refine g_ic zp243 rfl rfl ?_
      refine g_is (ls' := [zR 81, zI l1, zI l2, zI l3, zJ, zI 0]) zp243 rfl rfl (Nat.le_of_ble_eq_true rfl) rfl ?_
      exact g_weak (ls' := [zR 81, zJ, zJ, zJ, zJ, zI 0]) ⟨Or.inr rfl, Or.inl rfl, Or.inl rfl, Or.inl rfl, Or.inr rfl, Or.inr rfl, trivial⟩ h
    · replace h := h.2 c9
      refine g_il zp243 rfl rfl rfl ?_
      refine g_ic zp243 rfl rfl ?_
      refine g_icmp zp243 rfl rfl zc1 (fun c10 => ?_) (fun c10 => ?_)
      · replace h := h.1 c10
        refine g_il zp243 rfl rfl rfl ?_
        refine g_ic zp243 rfl rfl ?_
        refine g_icmp zp243 rfl rfl zc1 (fun c11 => ?_) (fun c11 => ?_)
        · replace h := h.1 c11
          refine g_al zp243 rfl rfl rfl (by decide) ?_
          refine g_get (v := zR 94) zp243 rfl rfl rfl ⟨rfl, by decide, (by decide)⟩ rfl ?_
          refine g_al zp243 rfl rfl rfl (by decide) ?_
          refine g_get (v := zI (H7 81 21)) zp243 rfl rfl rfl ⟨rfl, by decide, (by decide)⟩ rfl ?_
          refine g_ic zp243 rfl rfl ?_
          refine g_ar (r := w32 ((H7 81 21) - 1)) zp243 rfl rfl rfl ?_
          obtain ⟨c12, h⟩ := h
          refine g_ald (v := zI (H7 94 (w32 ((H7 81 21) - 1)))) zp243 rfl rfl rfl rfl c12 rfl ?_
          exact g_ret zp243 rfl rfl ⟨_, rfl, h⟩
        · replace h := h.2 c11
          refine g_al zp243 rfl rfl rfl (by decide) ?_
          refine g_get (v := zI (H7 81 22)) zp243 rfl rfl rfl ⟨rfl, by decide, (by decide)⟩ rfl ?_
          refine g_goto zp243 rfl ?_
          exact g_ret zp243 rfl rfl ⟨_, rfl, h⟩
      · replace h := h.2 c10
        refine g_al zp243 rfl rfl rfl (by decide) ?_
        refine g_get (v := zI (H7 81 21)) zp243 rfl rfl rfl ⟨rfl, by decide, (by decide)⟩ rfl ?_
        refine g_goto zp243 rfl ?_
        exact g_ret zp243 rfl rfl ⟨_, rfl, h⟩
  · replace h := h.2 c3
    refine g_ic zp243 rfl rfl ?_
    exact g_ret zp243 rfl rfl ⟨_, rfl, h⟩
theorem x243_136 {w : zWt} {d : Nat} {H : zHt} {K : Int → zHt → Prop} {l5 : Int}
    (h : ((H 81 21) ≤ l5 → (¬ l5 = (H 81 21) → K l5 H) ∧ (l5 = (H 81 21) → (¬ l5 = (H 81 24) → K l5 H) ∧ (l5 = (H 81 24) → zclI w d 178 [zR 81, zI 5] H (fun x5 H4 => K x5 H4)))) ∧ (l5 < (H 81 21) → ((H 81 24) ≤ l5 → (¬ l5 = (H 81 21) → K l5 H) ∧ (l5 = (H 81 21) → (¬ l5 = (H 81 24) → K l5 H) ∧ (l5 = (H 81 24) → zclI w d 178 [zR 81, zI 5] H (fun x10 H9 => K x10 H9)))) ∧ (l5 < (H 81 24) → (0 ≤ l5 ∧ l5 < 101) ∧ (¬ (H 94 l5) = (H 95 l5) → (¬ l5 = (H 81 21) → K l5 H) ∧ (l5 = (H 81 21) → (¬ l5 = (H 81 24) → K l5 H) ∧ (l5 = (H 81 24) → zclI w d 178 [zR 81, zI 5] H (fun x16 H15 => K x16 H15)))) ∧ ((H 94 l5) = (H 95 l5) → zgo w (d + 1) 243 136 [zR 81, zJ, zJ, zJ, zJ, zI (w32 (l5 + 1))] [] H (zQI K))))) :
    zgo w (d + 1) 243 136 [zR 81, zJ, zJ, zJ, zJ, zI l5] [] H (zQI K) := by
  refine g_il zp243 rfl rfl rfl ?_
  refine g_al zp243 rfl rfl rfl (by decide) ?_
  refine g_get (v := zI (H 81 21)) zp243 rfl rfl rfl ⟨rfl, by decide, (by decide)⟩ rfl ?_
  refine g_icmp zp243 rfl rfl zc3 (fun c1 => ?_) (fun c1 => ?_)
  · replace h := h.1 c1
    refine g_il zp243 rfl rfl rfl ?_
    refine g_al zp243 rfl rfl rfl (by decide) ?_
    refine g_get (v := zI (H 81 21)) zp243 rfl rfl rfl ⟨rfl, by decide, (by decide)⟩ rfl ?_
    refine g_icmp zp243 rfl rfl zc1 (fun c2 => ?_) (fun c2 => ?_)
    · replace h := h.1 c2
      refine g_il zp243 rfl rfl rfl ?_
      exact g_ret zp243 rfl rfl ⟨_, rfl, h⟩
    · replace h := h.2 c2
      refine g_il zp243 rfl rfl rfl ?_
      refine g_al zp243 rfl rfl rfl (by decide) ?_
      refine g_get (v := zI (H 81 24)) zp243 rfl rfl rfl ⟨rfl, by decide, (by decide)⟩ rfl ?_
      refine g_icmp zp243 rfl rfl zc1 (fun c3 => ?_) (fun c3 => ?_)
      · replace h := h.1 c3
        refine g_il zp243 rfl rfl rfl ?_
        exact g_ret zp243 rfl rfl ⟨_, rfl, h⟩
      · replace h := h.2 c3
        refine g_al zp243 rfl rfl rfl (by decide) ?_
        refine g_ic zp243 rfl rfl ?_
        refine g_callI (as := [zR 81, zI 5]) (rest := []) zp243 rfl rfl (Nat.succ_pos _) rfl rfl (Nat.le_of_ble_eq_true rfl) (Nat.le_of_ble_eq_true rfl) rfl rfl h (fun x5 H4 h => ?_)
        refine g_goto zp243 rfl ?_
        exact g_ret zp243 rfl rfl ⟨_, rfl, h⟩
  · replace h := h.2 c1
    refine g_il zp243 rfl rfl rfl ?_
    refine g_al zp243 rfl rfl rfl (by decide) ?_
    refine g_get (v := zI (H 81 24)) zp243 rfl rfl rfl ⟨rfl, by decide, (by decide)⟩ rfl ?_
    refine g_icmp zp243 rfl rfl zc3 (fun c6 => ?_) (fun c6 => ?_)
    · replace h := h.1 c6
      refine g_il zp243 rfl rfl rfl ?_
      refine g_al zp243 rfl rfl rfl (by decide) ?_
      refine g_get (v := zI (H 81 21)) zp243 rfl rfl rfl ⟨rfl, by decide, (by decide)⟩ rfl ?_
      refine g_icmp zp243 rfl rfl zc1 (fun c7 => ?_) (fun c7 => ?_)
      · replace h := h.1 c7
        refine g_il zp243 rfl rfl rfl ?_
        exact g_ret zp243 rfl rfl ⟨_, rfl, h⟩
      · replace h := h.2 c7
        refine g_il zp243 rfl rfl rfl ?_
        refine g_al zp243 rfl rfl rfl (by decide) ?_
        refine g_get (v := zI (H 81 24)) zp243 rfl rfl rfl ⟨rfl, by decide, (by decide)⟩ rfl ?_
        refine g_icmp zp243 rfl rfl zc1 (fun c8 => ?_) (fun c8 => ?_)
        · replace h := h.1 c8
          refine g_il zp243 rfl rfl rfl ?_
          exact g_ret zp243 rfl rfl ⟨_, rfl, h⟩
        · replace h := h.2 c8
          refine g_al zp243 rfl rfl rfl (by decide) ?_
          refine g_ic zp243 rfl rfl ?_
          refine g_callI (as := [zR 81, zI 5]) (rest := []) zp243 rfl rfl (Nat.succ_pos _) rfl rfl (Nat.le_of_ble_eq_true rfl) (Nat.le_of_ble_eq_true rfl) rfl rfl h (fun x10 H9 h => ?_)
          refine g_goto zp243 rfl ?_
          exact g_ret zp243 rfl rfl ⟨_, rfl, h⟩
    · replace h := h.2 c6
      refine g_al zp243 rfl rfl rfl (by decide) ?_
      refine g_get (v := zR 94) zp243 rfl rfl rfl ⟨rfl, by decide, (by decide)⟩ rfl ?_
      refine g_il zp243 rfl rfl rfl ?_
      obtain ⟨c11, h⟩ := h
      refine g_ald (v := zI (H 94 l5)) zp243 rfl rfl rfl rfl c11 rfl ?_
      refine g_al zp243 rfl rfl rfl (by decide) ?_
      refine g_get (v := zR 95) zp243 rfl rfl rfl ⟨rfl, by decide, (by decide)⟩ rfl ?_
      refine g_il zp243 rfl rfl rfl ?_
      refine g_ald (v := zI (H 95 l5)) zp243 rfl rfl rfl rfl c11 rfl ?_
      refine g_icmp zp243 rfl rfl zc1 (fun c12 => ?_) (fun c12 => ?_)
      · replace h := h.1 c12
        refine g_il zp243 rfl rfl rfl ?_
        refine g_al zp243 rfl rfl rfl (by decide) ?_
        refine g_get (v := zI (H 81 21)) zp243 rfl rfl rfl ⟨rfl, by decide, (by decide)⟩ rfl ?_
        refine g_icmp zp243 rfl rfl zc1 (fun c13 => ?_) (fun c13 => ?_)
        · replace h := h.1 c13
          refine g_il zp243 rfl rfl rfl ?_
          exact g_ret zp243 rfl rfl ⟨_, rfl, h⟩
        · replace h := h.2 c13
          refine g_il zp243 rfl rfl rfl ?_
          refine g_al zp243 rfl rfl rfl (by decide) ?_
          refine g_get (v := zI (H 81 24)) zp243 rfl rfl rfl ⟨rfl, by decide, (by decide)⟩ rfl ?_
          refine g_icmp zp243 rfl rfl zc1 (fun c14 => ?_) (fun c14 => ?_)
          · replace h := h.1 c14
            refine g_il zp243 rfl rfl rfl ?_
            exact g_ret zp243 rfl rfl ⟨_, rfl, h⟩
          · replace h := h.2 c14
            refine g_al zp243 rfl rfl rfl (by decide) ?_
            refine g_ic zp243 rfl rfl ?_
            refine g_callI (as := [zR 81, zI 5]) (rest := []) zp243 rfl rfl (Nat.succ_pos _) rfl rfl (Nat.le_of_ble_eq_true rfl) (Nat.le_of_ble_eq_true rfl) rfl rfl h (fun x16 H15 h => ?_)
            refine g_goto zp243 rfl ?_
            exact g_ret zp243 rfl rfl ⟨_, rfl, h⟩
      · replace h := h.2 c12
        refine g_inc (ls' := [zR 81, zJ, zJ, zJ, zJ, zI (w32 (l5 + 1))]) zp243 rfl rfl rfl rfl ?_
        refine g_goto zp243 rfl ?_
        exact g_weak (ls' := [zR 81, zJ, zJ, zJ, zJ, zI (w32 (l5 + 1))]) ⟨Or.inr rfl, Or.inr rfl, Or.inr rfl, Or.inr rfl, Or.inr rfl, Or.inr rfl, trivial⟩ h
theorem zp244 : zprog.getD 244 [] = zk244 := rfl
theorem x244_0 {w : zWt} {d : Nat} {H : zHt} {K : zHt → Prop} {l1 : Int}
    (h : (0 ≤ l1 ∧ l1 < 10) ∧ zclV w d 226 [zR 81, zI (H 82 l1)] H (fun H2 => zgo w (d + 1) 244 12 [zR 81, zJ, zI 0] [] H2 (zQV K))) :
    zclV w (d + 1) 244 [zR 81, zI l1] H K := by
  show zgo w (d + 1) 244 0 [zR 81, zI l1, zJ] [] H (zQV K)
  refine g_al zp244 rfl rfl rfl (by decide) ?_
  refine g_al zp244 rfl rfl rfl (by decide) ?_
  refine g_get (v := zR 82) zp244 rfl rfl rfl ⟨rfl, by decide, (by decide)⟩ rfl ?_
  refine g_il zp244 rfl rfl rfl ?_
  obtain ⟨c1, h⟩ := h
  refine g_ald (v := zI (H 82 l1)) zp244 rfl rfl rfl rfl c1 rfl ?_
  refine g_callV (as := [zR 81, zI (H 82 l1)]) (rest := []) zp244 rfl rfl (Nat.succ_pos _) rfl rfl (Nat.le_of_ble_eq_true rfl) (Nat.le_of_ble_eq_true rfl) rfl rfl h (fun H2 h => ?_)
  refine g_ic zp244 rfl rfl ?_
  refine g_is (ls' := [zR 81, zI l1, zI 0]) zp244 rfl rfl (Nat.le_of_ble_eq_true rfl) rfl ?_
  exact g_weak (ls' := [zR 81, zJ, zI 0]) ⟨Or.inr rfl, Or.inl rfl, Or.inr rfl, trivial⟩ h
theorem x244_12 {w : zWt} {d : Nat} {H : zHt} {K : zHt → Prop} {l2 : Int}
    (h : ((H 81 21) ≤ l2 → K (zup H 81 24 (H 81 21))) ∧ (l2 < (H 81 21) → (0 ≤ l2 ∧ l2 < 101) ∧ zgo w (d + 1) 244 12 [zR 81, zJ, zI (w32 (l2 + 1))] [] (zup H 95 l2 (H 94 l2)) (zQV K))) :
    zgo w (d + 1) 244 12 [zR 81, zJ, zI l2] [] H (zQV K) := by
  refine g_il zp244 rfl rfl rfl ?_
  refine g_al zp244 rfl rfl rfl (by decide) ?_
  refine g_get (v := zI (H 81 21)) zp244 rfl rfl rfl ⟨rfl, by decide, (by decide)⟩ rfl ?_
  refine g_icmp zp244 rfl rfl zc3 (fun c1 => ?_) (fun c1 => ?_)
  · replace h := h.1 c1
    refine g_al zp244 rfl rfl rfl (by decide) ?_
    refine g_al zp244 rfl rfl rfl (by decide) ?_
    refine g_get (v := zI (H 81 21)) zp244 rfl rfl rfl ⟨rfl, by decide, (by decide)⟩ rfl ?_
    refine g_putI zp244 rfl rfl rfl ⟨rfl, by decide, (by decide)⟩ rfl rfl ?_
    exact g_ret zp244 rfl rfl ⟨rfl, h⟩
  · replace h := h.2 c1
    refine g_al zp244 rfl rfl rfl (by decide) ?_
    refine g_get (v := zR 95) zp244 rfl rfl rfl ⟨rfl, by decide, (by decide)⟩ rfl ?_
    refine g_il zp244 rfl rfl rfl ?_
    refine g_al zp244 rfl rfl rfl (by decide) ?_
    refine g_get (v := zR 94) zp244 rfl rfl rfl ⟨rfl, by decide, (by decide)⟩ rfl ?_
    refine g_il zp244 rfl rfl rfl ?_
    obtain ⟨c2, h⟩ := h
    refine g_ald (v := zI (H 94 l2)) zp244 rfl rfl rfl rfl c2 rfl ?_
    refine g_iast zp244 rfl rfl rfl (by decide) rfl c2 ?_
    refine g_inc (ls' := [zR 81, zJ, zI (w32 (l2 + 1))]) zp244 rfl rfl rfl rfl ?_
    refine g_goto zp244 rfl ?_
    exact g_weak (ls' := [zR 81, zJ, zI (w32 (l2 + 1))]) ⟨Or.inr rfl, Or.inr rfl, Or.inr rfl, trivial⟩ h
theorem zp245 : zprog.getD 245 [] = zk245 := rfl
theorem x245_0 {w : zWt} {d : Nat} {H : zHt} {K : Int → zHt → Prop} {l1 : Int} {l2 : Int} {l3 : Int}
    (h : zclI w d 173 [zL l3, zL 0, zL 3] H (fun x2 H1 => zclI w d 246 [zR 81, zI x2, zI l1, zI l2] H1 (fun x4 H3 => (¬ x4 = 0 → ((H3 81 24) ≤ (H3 81 21) → zgo w (d + 1) 245 59 [zR 81, zJ, zJ, zI l3, zI (H3 81 24), zI 0, zI 0, zI 0, zI 0, zI 0, zJ] [] H3 (zQI K)) ∧ ((H3 81 21) < (H3 81 24) → zgo w (d + 1) 245 59 [zR 81, zJ, zJ, zI l3, zI (H3 81 21), zI 0, zI 0, zI 0, zI 0, zI 0, zJ] [] H3 (zQI K))) ∧ (x4 = 0 → K (-1) H3)))) :
    zclI w (d + 1) 245 [zR 81, zI l1, zI l2, zI l3] H K := by
  show zgo w (d + 1) 245 0 [zR 81, zI l1, zI l2, zI l3, zJ, zJ, zJ, zJ, zJ, zJ, zJ] [] H (zQI K)
  refine g_al zp245 rfl rfl rfl (by decide) ?_
  refine g_il zp245 rfl rfl rfl ?_
  refine g_i2l zp245 rfl rfl ?_
  refine g_lc zp245 rfl rfl ?_
  refine g_lc zp245 rfl rfl ?_
  refine g_callI (as := [zL l3, zL 0, zL 3]) (rest := [zR 81]) zp245 rfl rfl (Nat.succ_pos _) rfl rfl (Nat.le_of_ble_eq_true rfl) (Nat.le_of_ble_eq_true rfl) rfl rfl h (fun x2 H1 h => ?_)
  refine g_il zp245 rfl rfl rfl ?_
  refine g_il zp245 rfl rfl rfl ?_
  refine g_callI (as := [zR 81, zI x2, zI l1, zI l2]) (rest := []) zp245 rfl rfl (Nat.succ_pos _) rfl rfl (Nat.le_of_ble_eq_true rfl) (Nat.le_of_ble_eq_true rfl) rfl rfl h (fun x4 H3 h => ?_)
  refine g_if zp245 rfl rfl zc1 (fun c5 => ?_) (fun c5 => ?_)
  · replace h := h.1 c5
    refine g_al zp245 rfl rfl rfl (by decide) ?_
    refine g_get (v := zI (H3 81 21)) zp245 rfl rfl rfl ⟨rfl, by decide, (by decide)⟩ rfl ?_
    refine g_al zp245 rfl rfl rfl (by decide) ?_
    refine g_get (v := zI (H3 81 24)) zp245 rfl rfl rfl ⟨rfl, by decide, (by decide)⟩ rfl ?_
    refine g_icmp zp245 rfl rfl zc3 (fun c6 => ?_) (fun c6 => ?_)
    · replace h := h.1 c6
      refine g_al zp245 rfl rfl rfl (by decide) ?_
      refine g_get (v := zI (H3 81 24)) zp245 rfl rfl rfl ⟨rfl, by decide, (by decide)⟩ rfl ?_
      refine g_is (ls' := [zR 81, zI l1, zI l2, zI l3, zI (H3 81 24), zJ, zJ, zJ, zJ, zJ, zJ]) zp245 rfl rfl (Nat.le_of_ble_eq_true rfl) rfl ?_
      refine g_ic zp245 rfl rfl ?_
      refine g_is (ls' := [zR 81, zI l1, zI l2, zI l3, zI (H3 81 24), zI 0, zJ, zJ, zJ, zJ, zJ]) zp245 rfl rfl (Nat.le_of_ble_eq_true rfl) rfl ?_
      refine g_ic zp245 rfl rfl ?_
      refine g_is (ls' := [zR 81, zI l1, zI l2, zI l3, zI (H3 81 24), zI 0, zI 0, zJ, zJ, zJ, zJ]) zp245 rfl rfl (Nat.le_of_ble_eq_true rfl) rfl ?_
      refine g_ic zp245 rfl rfl ?_
      refine g_is (ls' := [zR 81, zI l1, zI l2, zI l3, zI (H3 81 24), zI 0, zI 0, zI 0, zJ, zJ, zJ]) zp245 rfl rfl (Nat.le_of_ble_eq_true rfl) rfl ?_
      refine g_ic zp245 rfl rfl ?_
      refine g_is (ls' := [zR 81, zI l1, zI l2, zI l3, zI (H3 81 24), zI 0, zI 0, zI 0, zI 0, zJ, zJ]) zp245 rfl rfl (Nat.le_of_ble_eq_true rfl) rfl ?_
      refine g_ic zp245 rfl rfl ?_
      refine g_is (ls' := [zR 81, zI l1, zI l2, zI l3, zI (H3 81 24), zI 0, zI 0, zI 0, zI 0, zI 0, zJ]) zp245 rfl rfl (Nat.le_of_ble_eq_true rfl) rfl ?_
      exact g_weak (ls' := [zR 81, zJ, zJ, zI l3, zI (H3 81 24), zI 0, zI 0, zI 0, zI 0, zI 0, zJ]) ⟨Or.inr rfl, Or.inl rfl, Or.inl rfl, Or.inr rfl, Or.inr rfl, Or.inr rfl, Or.inr rfl, Or.inr rfl, Or.inr rfl, Or.inr rfl, Or.inr rfl, trivial⟩ h
    · replace h := h.2 c6
      refine g_al zp245 rfl rfl rfl (by decide) ?_
      refine g_get (v := zI (H3 81 21)) zp245 rfl rfl rfl ⟨rfl, by decide, (by decide)⟩ rfl ?_
      refine g_goto zp245 rfl ?_
      refine g_is (ls' := [zR 81, zI l1, zI l2, zI l3, zI (H3 81 21), zJ, zJ, zJ, zJ, zJ, zJ]) zp245 rfl rfl (Nat.le_of_ble_eq_true rfl) rfl ?_
      refine g_ic zp245 rfl rfl ?_
      refine g_is (ls' := [zR 81, zI l1, zI l2, zI l3, zI (H3 81 21), zI 0, zJ, zJ, zJ, zJ, zJ]) zp245 rfl rfl (Nat.le_of_ble_eq_true rfl) rfl ?_
      refine g_ic zp245 rfl rfl ?_
      refine g_is (ls' := [zR 81, zI l1, zI l2, zI l3, zI (H3 81 21), zI 0, zI 0, zJ, zJ, zJ, zJ]) zp245 rfl rfl (Nat.le_of_ble_eq_true rfl) rfl ?_
      refine g_ic zp245 rfl rfl ?_
      refine g_is (ls' := [zR 81, zI l1, zI l2, zI l3, zI (H3 81 21), zI 0, zI 0, zI 0, zJ, zJ, zJ]) zp245 rfl rfl (Nat.le_of_ble_eq_true rfl) rfl ?_
      refine g_ic zp245 rfl rfl ?_
      refine g_is (ls' := [zR 81, zI l1, zI l2, zI l3, zI (H3 81 21), zI 0, zI 0, zI 0, zI 0, zJ, zJ]) zp245 rfl rfl (Nat.le_of_ble_eq_true rfl) rfl ?_
      refine g_ic zp245 rfl rfl ?_
      refine g_is (ls' := [zR 81, zI l1, zI l2, zI l3, zI (H3 81 21), zI 0, zI 0, zI 0, zI 0, zI 0, zJ]) zp245 rfl rfl (Nat.le_of_ble_eq_true rfl) rfl ?_
      exact g_weak (ls' := [zR 81, zJ, zJ, zI l3, zI (H3 81 21), zI 0, zI 0, zI 0, zI 0, zI 0, zJ]) ⟨Or.inr rfl, Or.inl rfl, Or.inl rfl, Or.inr rfl, Or.inr rfl, Or.inr rfl, Or.inr rfl, Or.inr rfl, Or.inr rfl, Or.inr rfl, Or.inr rfl, trivial⟩ h
  · replace h := h.2 c5
    refine g_ic zp245 rfl rfl ?_
    exact g_ret zp245 rfl rfl ⟨_, rfl, h⟩
theorem x245_59 {w : zWt} {d : Nat} {H : zHt} {K : Int → zHt → Prop} {l3 : Int} {l4 : Int} {l5 : Int} {l6 : Int} {l7 : Int} {l8 : Int} {l9 : Int}
    (h : (l4 ≤ l9 → (¬ l3 = 0 → (¬ l3 = 1 → (¬ l3 = 2 → K (w32 (l4 - 1)) H) ∧ (l3 = 2 → K l7 H)) ∧ (l3 = 1 → K l6 H)) ∧ (l3 = 0 → K l5 H)) ∧ (l9 < l4 → (0 ≤ l9 ∧ l9 < 101) ∧ ((H 94 l9) ≤ (H 95 l9) → ((H 95 l9) ≤ (H 94 l9) → zgo w (d + 1) 245 109 [zR 81, zJ, zJ, zI l3, zI l4, zI l5, zI l6, zI l7, zI l8, zI l9, zJ] [zI 0] H (zQI K)) ∧ ((H 94 l9) < (H 95 l9) → zgo w (d + 1) 245 109 [zR 81, zJ, zJ, zI l3, zI l4, zI l5, zI l6, zI l7, zI l8, zI l9, zJ] [zI 2] H (zQI K))) ∧ ((H 95 l9) < (H 94 l9) → zgo w (d + 1) 245 109 [zR 81, zJ, zJ, zI l3, zI l4, zI l5, zI l6, zI l7, zI l8, zI l9, zJ] [zI 1] H (zQI K)))) :
    zgo w (d + 1) 245 59 [zR 81, zJ, zJ, zI l3, zI l4, zI l5, zI l6, zI l7, zI l8, zI l9, zJ] [] H (zQI K) := by
  refine g_il zp245 rfl rfl rfl ?_
  refine g_il zp245 rfl rfl rfl ?_
  refine g_icmp zp245 rfl rfl zc3 (fun c1 => ?_) (fun c1 => ?_)
  · replace h := h.1 c1
    refine g_il zp245 rfl rfl rfl ?_
    refine g_if zp245 rfl rfl zc1 (fun c2 => ?_) (fun c2 => ?_)
    · replace h := h.1 c2
      refine g_il zp245 rfl rfl rfl ?_
      refine g_ic zp245 rfl rfl ?_
      refine g_icmp zp245 rfl rfl zc1 (fun c3 => ?_) (fun c3 => ?_)
      · replace h := h.1 c3
        refine g_il zp245 rfl rfl rfl ?_
        refine g_ic zp245 rfl rfl ?_
        refine g_icmp zp245 rfl rfl zc1 (fun c4 => ?_) (fun c4 => ?_)
        · replace h := h.1 c4
          refine g_il zp245 rfl rfl rfl ?_
          refine g_ic zp245 rfl rfl ?_
          refine g_ar (r := w32 (l4 - 1)) zp245 rfl rfl rfl ?_
          exact g_ret zp245 rfl rfl ⟨_, rfl, h⟩
        · replace h := h.2 c4
          refine g_il zp245 rfl rfl rfl ?_
          refine g_goto zp245 rfl ?_
          exact g_ret zp245 rfl rfl ⟨_, rfl, h⟩
      · replace h := h.2 c3
        refine g_il zp245 rfl rfl rfl ?_
        refine g_goto zp245 rfl ?_
        exact g_ret zp245 rfl rfl ⟨_, rfl, h⟩
    · replace h := h.2 c2
      refine g_il zp245 rfl rfl rfl ?_
      refine g_goto zp245 rfl ?_
      exact g_ret zp245 rfl rfl ⟨_, rfl, h⟩
  · replace h := h.2 c1
    refine g_al zp245 rfl rfl rfl (by decide) ?_
    refine g_get (v := zR 94) zp245 rfl rfl rfl ⟨rfl, by decide, (by decide)⟩ rfl ?_
    refine g_il zp245 rfl rfl rfl ?_
    obtain ⟨c5, h⟩ := h
    refine g_ald (v := zI (H 94 l9)) zp245 rfl rfl rfl rfl c5 rfl ?_
    refine g_al zp245 rfl rfl rfl (by decide) ?_
    refine g_get (v := zR 95) zp245 rfl rfl rfl ⟨rfl, by decide, (by decide)⟩ rfl ?_
    refine g_il zp245 rfl rfl rfl ?_
    refine g_ald (v := zI (H 95 l9)) zp245 rfl rfl rfl rfl c5 rfl ?_
    refine g_icmp zp245 rfl rfl zc5 (fun c6 => ?_) (fun c6 => ?_)
    · replace h := h.1 c6
      refine g_al zp245 rfl rfl rfl (by decide) ?_
      refine g_get (v := zR 94) zp245 rfl rfl rfl ⟨rfl, by decide, (by decide)⟩ rfl ?_
      refine g_il zp245 rfl rfl rfl ?_
      refine g_ald (v := zI (H 94 l9)) zp245 rfl rfl rfl rfl c5 rfl ?_
      refine g_al zp245 rfl rfl rfl (by decide) ?_
      refine g_get (v := zR 95) zp245 rfl rfl rfl ⟨rfl, by decide, (by decide)⟩ rfl ?_
      refine g_il zp245 rfl rfl rfl ?_
      refine g_ald (v := zI (H 95 l9)) zp245 rfl rfl rfl rfl c5 rfl ?_
      refine g_icmp zp245 rfl rfl zc3 (fun c7 => ?_) (fun c7 => ?_)
      · replace h := h.1 c7
        refine g_ic zp245 rfl rfl ?_
        exact g_weak (ls' := [zR 81, zJ, zJ, zI l3, zI l4, zI l5, zI l6, zI l7, zI l8, zI l9, zJ]) ⟨Or.inr rfl, Or.inr rfl, Or.inr rfl, Or.inr rfl, Or.inr rfl, Or.inr rfl, Or.inr rfl, Or.inr rfl, Or.inr rfl, Or.inr rfl, Or.inr rfl, trivial⟩ h
      · replace h := h.2 c7
        refine g_ic zp245 rfl rfl ?_
        refine g_goto zp245 rfl ?_
        exact g_weak (ls' := [zR 81, zJ, zJ, zI l3, zI l4, zI l5, zI l6, zI l7, zI l8, zI l9, zJ]) ⟨Or.inr rfl, Or.inr rfl, Or.inr rfl, Or.inr rfl, Or.inr rfl, Or.inr rfl, Or.inr rfl, Or.inr rfl, Or.inr rfl, Or.inr rfl, Or.inr rfl, trivial⟩ h
    · replace h := h.2 c6
      refine g_ic zp245 rfl rfl ?_
      refine g_goto zp245 rfl ?_
      exact g_weak (ls' := [zR 81, zJ, zJ, zI l3, zI l4, zI l5, zI l6, zI l7, zI l8, zI l9, zJ]) ⟨Or.inr rfl, Or.inr rfl, Or.inr rfl, Or.inr rfl, Or.inr rfl, Or.inr rfl, Or.inr rfl, Or.inr rfl, Or.inr rfl, Or.inr rfl, Or.inr rfl, trivial⟩ h
theorem x245_109 {w : zWt} {d : Nat} {H : zHt} {K : Int → zHt → Prop} {l3 : Int} {l4 : Int} {l5 : Int} {l6 : Int} {l7 : Int} {l8 : Int} {l9 : Int} {s0 : Int}
    (h : (¬ s0 = 1 → (¬ s0 = 2 → zgo w (d + 1) 245 140 [zR 81, zJ, zJ, zI l3, zI l4, zI (w32 (l5 + 0)), zJ, zI l7, zI l8, zI l9, zI s0] [zI 0, zI l6] H (zQI K)) ∧ (s0 = 2 → zgo w (d + 1) 245 140 [zR 81, zJ, zJ, zI l3, zI l4, zI (w32 (l5 + 0)), zJ, zI l7, zI l8, zI l9, zI s0] [zI 1, zI l6] H (zQI K))) ∧ (s0 = 1 → (¬ s0 = 2 → zgo w (d + 1) 245 140 [zR 81, zJ, zJ, zI l3, zI l4, zI (w32 (l5 + 1)), zJ, zI l7, zI l8, zI l9, zI s0] [zI 0, zI l6] H (zQI K)) ∧ (s0 = 2 → zgo w (d + 1) 245 140 [zR 81, zJ, zJ, zI l3, zI l4, zI (w32 (l5 + 1)), zJ, zI l7, zI l8, zI l9, zI s0] [zI 1, zI l6] H (zQI K)))) :
    zgo w (d + 1) 245 109 [zR 81, zJ, zJ, zI l3, zI l4, zI l5, zI l6, zI l7, zI l8, zI l9, zJ] [zI s0] H (zQI K) := by
  refine g_is (ls' := [zR 81, zJ, zJ, zI l3, zI l4, zI l5, zI l6, zI l7, zI l8, zI l9, zI s0]) zp245 rfl rfl (Nat.le_of_ble_eq_true rfl) rfl ?_
  refine g_il zp245 rfl rfl rfl ?_
  refine g_il zp245 rfl rfl rfl ?_
  refine g_ic zp245 rfl rfl ?_
  refine g_icmp zp245 rfl rfl zc1 (fun c1 => ?_) (fun c1 => ?_)
  · replace h := h.1 c1
    refine g_ic zp245 rfl rfl ?_
    refine g_ar (r := w32 (l5 + 0)) zp245 rfl rfl rfl ?_
    refine g_is (ls' := [zR 81, zJ, zJ, zI l3, zI l4, zI (w32 (l5 + 0)), zI l6, zI l7, zI l8, zI l9, zI s0]) zp245 rfl rfl (Nat.le_of_ble_eq_true rfl) rfl ?_
    refine g_il zp245 rfl rfl rfl ?_
    refine g_il zp245 rfl rfl rfl ?_
    refine g_ic zp245 rfl rfl ?_
    refine g_icmp zp245 rfl rfl zc1 (fun c2 => ?_) (fun c2 => ?_)
    · replace h := h.1 c2
      refine g_ic zp245 rfl rfl ?_
      exact g_weak (ls' := [zR 81, zJ, zJ, zI l3, zI l4, zI (w32 (l5 + 0)), zJ, zI l7, zI l8, zI l9, zI s0]) ⟨Or.inr rfl, Or.inr rfl, Or.inr rfl, Or.inr rfl, Or.inr rfl, Or.inr rfl, Or.inl rfl, Or.inr rfl, Or.inr rfl, Or.inr rfl, Or.inr rfl, trivial⟩ h
    · replace h := h.2 c2
      refine g_ic zp245 rfl rfl ?_
      refine g_goto zp245 rfl ?_
      exact g_weak (ls' := [zR 81, zJ, zJ, zI l3, zI l4, zI (w32 (l5 + 0)), zJ, zI l7, zI l8, zI l9, zI s0]) ⟨Or.inr rfl, Or.inr rfl, Or.inr rfl, Or.inr rfl, Or.inr rfl, Or.inr rfl, Or.inl rfl, Or.inr rfl, Or.inr rfl, Or.inr rfl, Or.inr rfl, trivial⟩ h
  · replace h := h.2 c1
    refine g_ic zp245 rfl rfl ?_
    refine g_goto zp245 rfl ?_
    refine g_ar (r := w32 (l5 + 1)) zp245 rfl rfl rfl ?_
    refine g_is (ls' := [zR 81, zJ, zJ, zI l3, zI l4, zI (w32 (l5 + 1)), zI l6, zI l7, zI l8, zI l9, zI s0]) zp245 rfl rfl (Nat.le_of_ble_eq_true rfl) rfl ?_
    refine g_il zp245 rfl rfl rfl ?_
    refine g_il zp245 rfl rfl rfl ?_
    refine g_ic zp245 rfl rfl ?_
    refine g_icmp zp245 rfl rfl zc1 (fun c3 => ?_) (fun c3 => ?_)
    · replace h := h.1 c3
      refine g_ic zp245 rfl rfl ?_
      exact g_weak (ls' := [zR 81, zJ, zJ, zI l3, zI l4, zI (w32 (l5 + 1)), zJ, zI l7, zI l8, zI l9, zI s0]) ⟨Or.inr rfl, Or.inr rfl, Or.inr rfl, Or.inr rfl, Or.inr rfl, Or.inr rfl, Or.inl rfl, Or.inr rfl, Or.inr rfl, Or.inr rfl, Or.inr rfl, trivial⟩ h
    · replace h := h.2 c3
      refine g_ic zp245 rfl rfl ?_
      refine g_goto zp245 rfl ?_
      exact g_weak (ls' := [zR 81, zJ, zJ, zI l3, zI l4, zI (w32 (l5 + 1)), zJ, zI l7, zI l8, zI l9, zI s0]) ⟨Or.inr rfl, Or.inr rfl, Or.inr rfl, Or.inr rfl, Or.inr rfl, Or.inr rfl, Or.inl rfl, Or.inr rfl, Or.inr rfl, Or.inr rfl, Or.inr rfl, trivial⟩ h
theorem x245_140 {w : zWt} {d : Nat} {H : zHt} {K : Int → zHt → Prop} {l3 : Int} {l4 : Int} {l5 : Int} {l7 : Int} {l8 : Int} {l9 : Int} {l10 : Int} {s0 : Int} {s1 : Int}
    (h : (l10 ≤ 0 → (l10 ≤ 0 → zgo w (d + 1) 245 59 [zR 81, zJ, zJ, zI l3, zI l4, zI l5, zI (w32 (s0 + s1)), zI (w32 (l7 + 0)), zI l8, zI (w32 (l9 + 1)), zJ] [] H (zQI K)) ∧ (0 < l10 → zgo w (d + 1) 245 59 [zR 81, zJ, zJ, zI l3, zI l4, zI l5, zI (w32 (s0 + s1)), zI (w32 (l7 + 0)), zI l10, zI (w32 (l9 + 1)), zJ] [] H (zQI K))) ∧ (0 < l10 → (l8 ≤ 0 → (l10 ≤ 0 → zgo w (d + 1) 245 59 [zR 81, zJ, zJ, zI l3, zI l4, zI l5, zI (w32 (s0 + s1)), zI (w32 (l7 + 0)), zI l8, zI (w32 (l9 + 1)), zJ] [] H (zQI K)) ∧ (0 < l10 → zgo w (d + 1) 245 59 [zR 81, zJ, zJ, zI l3, zI l4, zI l5, zI (w32 (s0 + s1)), zI (w32 (l7 + 0)), zI l10, zI (w32 (l9 + 1)), zJ] [] H (zQI K))) ∧ (0 < l8 → (l10 = l8 → (l10 ≤ 0 → zgo w (d + 1) 245 59 [zR 81, zJ, zJ, zI l3, zI l4, zI l5, zI (w32 (s0 + s1)), zI (w32 (l7 + 0)), zI l8, zI (w32 (l9 + 1)), zJ] [] H (zQI K)) ∧ (0 < l10 → zgo w (d + 1) 245 59 [zR 81, zJ, zJ, zI l3, zI l4, zI l5, zI (w32 (s0 + s1)), zI (w32 (l7 + 0)), zI l10, zI (w32 (l9 + 1)), zJ] [] H (zQI K))) ∧ (¬ l10 = l8 → (l10 ≤ 0 → zgo w (d + 1) 245 59 [zR 81, zJ, zJ, zI l3, zI l4, zI l5, zI (w32 (s0 + s1)), zI (w32 (l7 + 1)), zI l8, zI (w32 (l9 + 1)), zJ] [] H (zQI K)) ∧ (0 < l10 → zgo w (d + 1) 245 59 [zR 81, zJ, zJ, zI l3, zI l4, zI l5, zI (w32 (s0 + s1)), zI (w32 (l7 + 1)), zI l10, zI (w32 (l9 + 1)), zJ] [] H (zQI K)))))) :
    zgo w (d + 1) 245 140 [zR 81, zJ, zJ, zI l3, zI l4, zI l5, zJ, zI l7, zI l8, zI l9, zI l10] [zI s1, zI s0] H (zQI K) := by
  refine g_ar (r := w32 (s0 + s1)) zp245 rfl rfl rfl ?_
  refine g_is (ls' := [zR 81, zJ, zJ, zI l3, zI l4, zI l5, zI (w32 (s0 + s1)), zI l7, zI l8, zI l9, zI l10]) zp245 rfl rfl (Nat.le_of_ble_eq_true rfl) rfl ?_
  refine g_il zp245 rfl rfl rfl ?_
  refine g_il zp245 rfl rfl rfl ?_
  refine g_if zp245 rfl rfl zc5 (fun c1 => ?_) (fun c1 => ?_)
  · replace h := h.1 c1
    refine g_ic zp245 rfl rfl ?_
    refine g_ar (r := w32 (l7 + 0)) zp245 rfl rfl rfl ?_
    refine g_is (ls' := [zR 81, zJ, zJ, zI l3, zI l4, zI l5, zI (w32 (s0 + s1)), zI (w32 (l7 + 0)), zI l8, zI l9, zI l10]) zp245 rfl rfl (Nat.le_of_ble_eq_true rfl) rfl ?_
    refine g_il zp245 rfl rfl rfl ?_
    refine g_if zp245 rfl rfl zc5 (fun c2 => ?_) (fun c2 => ?_)
    · replace h := h.1 c2
      refine g_il zp245 rfl rfl rfl ?_
      refine g_is (ls' := [zR 81, zJ, zJ, zI l3, zI l4, zI l5, zI (w32 (s0 + s1)), zI (w32 (l7 + 0)), zI l8, zI l9, zI l10]) zp245 rfl rfl (Nat.le_of_ble_eq_true rfl) rfl ?_
      refine g_inc (ls' := [zR 81, zJ, zJ, zI l3, zI l4, zI l5, zI (w32 (s0 + s1)), zI (w32 (l7 + 0)), zI l8, zI (w32 (l9 + 1)), zI l10]) zp245 rfl rfl rfl rfl ?_
      refine g_goto zp245 rfl ?_
      exact g_weak (ls' := [zR 81, zJ, zJ, zI l3, zI l4, zI l5, zI (w32 (s0 + s1)), zI (w32 (l7 + 0)), zI l8, zI (w32 (l9 + 1)), zJ]) ⟨Or.inr rfl, Or.inr rfl, Or.inr rfl, Or.inr rfl, Or.inr rfl, Or.inr rfl, Or.inr rfl, Or.inr rfl, Or.inr rfl, Or.inr rfl, Or.inl rfl, trivial⟩ h
    · replace h := h.2 c2
      refine g_il zp245 rfl rfl rfl ?_
      refine g_goto zp245 rfl ?_
      refine g_is (ls' := [zR 81, zJ, zJ, zI l3, zI l4, zI l5, zI (w32 (s0 + s1)), zI (w32 (l7 + 0)), zI l10, zI l9, zI l10]) zp245 rfl rfl (Nat.le_of_ble_eq_true rfl) rfl ?_
      refine g_inc (ls' := [zR 81, zJ, zJ, zI l3, zI l4, zI l5, zI (w32 (s0 + s1)), zI (w32 (l7 + 0)), zI l10, zI (w32 (l9 + 1)), zI l10]) zp245 rfl rfl rfl rfl ?_
      refine g_goto zp245 rfl ?_
      exact g_weak (ls' := [zR 81, zJ, zJ, zI l3, zI l4, zI l5, zI (w32 (s0 + s1)), zI (w32 (l7 + 0)), zI l10, zI (w32 (l9 + 1)), zJ]) ⟨Or.inr rfl, Or.inr rfl, Or.inr rfl, Or.inr rfl, Or.inr rfl, Or.inr rfl, Or.inr rfl, Or.inr rfl, Or.inr rfl, Or.inr rfl, Or.inl rfl, trivial⟩ h
  · replace h := h.2 c1
    refine g_il zp245 rfl rfl rfl ?_
    refine g_if zp245 rfl rfl zc5 (fun c3 => ?_) (fun c3 => ?_)
    · replace h := h.1 c3
      refine g_ic zp245 rfl rfl ?_
      refine g_ar (r := w32 (l7 + 0)) zp245 rfl rfl rfl ?_
      refine g_is (ls' := [zR 81, zJ, zJ, zI l3, zI l4, zI l5, zI (w32 (s0 + s1)), zI (w32 (l7 + 0)), zI l8, zI l9, zI l10]) zp245 rfl rfl (Nat.le_of_ble_eq_true rfl) rfl ?_
      refine g_il zp245 rfl rfl rfl ?_
      refine g_if zp245 rfl rfl zc5 (fun c4 => ?_) (fun c4 => ?_)
      · replace h := h.1 c4
        refine g_il zp245 rfl rfl rfl ?_
        refine g_is (ls' := [zR 81, zJ, zJ, zI l3, zI l4, zI l5, zI (w32 (s0 + s1)), zI (w32 (l7 + 0)), zI l8, zI l9, zI l10]) zp245 rfl rfl (Nat.le_of_ble_eq_true rfl) rfl ?_
        refine g_inc (ls' := [zR 81, zJ, zJ, zI l3, zI l4, zI l5, zI (w32 (s0 + s1)), zI (w32 (l7 + 0)), zI l8, zI (w32 (l9 + 1)), zI l10]) zp245 rfl rfl rfl rfl ?_
        refine g_goto zp245 rfl ?_
        exact g_weak (ls' := [zR 81, zJ, zJ, zI l3, zI l4, zI l5, zI (w32 (s0 + s1)), zI (w32 (l7 + 0)), zI l8, zI (w32 (l9 + 1)), zJ]) ⟨Or.inr rfl, Or.inr rfl, Or.inr rfl, Or.inr rfl, Or.inr rfl, Or.inr rfl, Or.inr rfl, Or.inr rfl, Or.inr rfl, Or.inr rfl, Or.inl rfl, trivial⟩ h
      · replace h := h.2 c4
        refine g_il zp245 rfl rfl rfl ?_
        refine g_goto zp245 rfl ?_
        refine g_is (ls' := [zR 81, zJ, zJ, zI l3, zI l4, zI l5, zI (w32 (s0 + s1)), zI (w32 (l7 + 0)), zI l10, zI l9, zI l10]) zp245 rfl rfl (Nat.le_of_ble_eq_true rfl) rfl ?_
        refine g_inc (ls' := [zR 81, zJ, zJ, zI l3, zI l4, zI l5, zI (w32 (s0 + s1)), zI (w32 (l7 + 0)), zI l10, zI (w32 (l9 + 1)), zI l10]) zp245 rfl rfl rfl rfl ?_
        refine g_goto zp245 rfl ?_
        exact g_weak (ls' := [zR 81, zJ, zJ, zI l3, zI l4, zI l5, zI (w32 (s0 + s1)), zI (w32 (l7 + 0)), zI l10, zI (w32 (l9 + 1)), zJ]) ⟨Or.inr rfl, Or.inr rfl, Or.inr rfl, Or.inr rfl, Or.inr rfl, Or.inr rfl, Or.inr rfl, Or.inr rfl, Or.inr rfl, Or.inr rfl, Or.inl rfl, trivial⟩ h
    · replace h := h.2 c3
      refine g_il zp245 rfl rfl rfl ?_
      refine g_il zp245 rfl rfl rfl ?_
      refine g_icmp zp245 rfl rfl zc0 (fun c5 => ?_) (fun c5 => ?_)
      · replace h := h.1 c5
        refine g_ic zp245 rfl rfl ?_
        refine g_ar (r := w32 (l7 + 0)) zp245 rfl rfl rfl ?_
        refine g_is (ls' := [zR 81, zJ, zJ, zI l3, zI l4, zI l5, zI (w32 (s0 + s1)), zI (w32 (l7 + 0)), zI l8, zI l9, zI l10]) zp245 rfl rfl (Nat.le_of_ble_eq_true rfl) rfl ?_
        refine g_il zp245 rfl rfl rfl ?_
        refine g_if zp245 rfl rfl zc5 (fun c6 => ?_) (fun c6 => ?_)
        · replace h := h.1 c6
          refine g_il zp245 rfl rfl rfl ?_
          refine g_is (ls' := [zR 81, zJ, zJ, zI l3, zI l4, zI l5, zI (w32 (s0 + s1)), zI (w32 (l7 + 0)), zI l8, zI l9, zI l10]) zp245 rfl rfl (Nat.le_of_ble_eq_true rfl) rfl ?_
          refine g_inc (ls' := [zR 81, zJ, zJ, zI l3, zI l4, zI l5, zI (w32 (s0 + s1)), zI (w32 (l7 + 0)), zI l8, zI (w32 (l9 + 1)), zI l10]) zp245 rfl rfl rfl rfl ?_
          refine g_goto zp245 rfl ?_
          exact g_weak (ls' := [zR 81, zJ, zJ, zI l3, zI l4, zI l5, zI (w32 (s0 + s1)), zI (w32 (l7 + 0)), zI l8, zI (w32 (l9 + 1)), zJ]) ⟨Or.inr rfl, Or.inr rfl, Or.inr rfl, Or.inr rfl, Or.inr rfl, Or.inr rfl, Or.inr rfl, Or.inr rfl, Or.inr rfl, Or.inr rfl, Or.inl rfl, trivial⟩ h
        · replace h := h.2 c6
          refine g_il zp245 rfl rfl rfl ?_
          refine g_goto zp245 rfl ?_
          refine g_is (ls' := [zR 81, zJ, zJ, zI l3, zI l4, zI l5, zI (w32 (s0 + s1)), zI (w32 (l7 + 0)), zI l10, zI l9, zI l10]) zp245 rfl rfl (Nat.le_of_ble_eq_true rfl) rfl ?_
          refine g_inc (ls' := [zR 81, zJ, zJ, zI l3, zI l4, zI l5, zI (w32 (s0 + s1)), zI (w32 (l7 + 0)), zI l10, zI (w32 (l9 + 1)), zI l10]) zp245 rfl rfl rfl rfl ?_
          refine g_goto zp245 rfl ?_
          exact g_weak (ls' := [zR 81, zJ, zJ, zI l3, zI l4, zI l5, zI (w32 (s0 + s1)), zI (w32 (l7 + 0)), zI l10, zI (w32 (l9 + 1)), zJ]) ⟨Or.inr rfl, Or.inr rfl, Or.inr rfl, Or.inr rfl, Or.inr rfl, Or.inr rfl, Or.inr rfl, Or.inr rfl, Or.inr rfl, Or.inr rfl, Or.inl rfl, trivial⟩ h
      · replace h := h.2 c5
        refine g_ic zp245 rfl rfl ?_
        refine g_goto zp245 rfl ?_
        refine g_ar (r := w32 (l7 + 1)) zp245 rfl rfl rfl ?_
        refine g_is (ls' := [zR 81, zJ, zJ, zI l3, zI l4, zI l5, zI (w32 (s0 + s1)), zI (w32 (l7 + 1)), zI l8, zI l9, zI l10]) zp245 rfl rfl (Nat.le_of_ble_eq_true rfl) rfl ?_
        refine g_il zp245 rfl rfl rfl ?_
        refine g_if zp245 rfl rfl zc5 (fun c7 => ?_) (fun c7 => ?_)
        · replace h := h.1 c7
          refine g_il zp245 rfl rfl rfl ?_
          refine g_is (ls' := [zR 81, zJ, zJ, zI l3, zI l4, zI l5, zI (w32 (s0 + s1)), zI (w32 (l7 + 1)), zI l8, zI l9, zI l10]) zp245 rfl rfl (Nat.le_of_ble_eq_true rfl) rfl ?_
          refine g_inc (ls' := [zR 81, zJ, zJ, zI l3, zI l4, zI l5, zI (w32 (s0 + s1)), zI (w32 (l7 + 1)), zI l8, zI (w32 (l9 + 1)), zI l10]) zp245 rfl rfl rfl rfl ?_
          refine g_goto zp245 rfl ?_
          exact g_weak (ls' := [zR 81, zJ, zJ, zI l3, zI l4, zI l5, zI (w32 (s0 + s1)), zI (w32 (l7 + 1)), zI l8, zI (w32 (l9 + 1)), zJ]) ⟨Or.inr rfl, Or.inr rfl, Or.inr rfl, Or.inr rfl, Or.inr rfl, Or.inr rfl, Or.inr rfl, Or.inr rfl, Or.inr rfl, Or.inr rfl, Or.inl rfl, trivial⟩ h
        · replace h := h.2 c7
          refine g_il zp245 rfl rfl rfl ?_
          refine g_goto zp245 rfl ?_
          refine g_is (ls' := [zR 81, zJ, zJ, zI l3, zI l4, zI l5, zI (w32 (s0 + s1)), zI (w32 (l7 + 1)), zI l10, zI l9, zI l10]) zp245 rfl rfl (Nat.le_of_ble_eq_true rfl) rfl ?_
          refine g_inc (ls' := [zR 81, zJ, zJ, zI l3, zI l4, zI l5, zI (w32 (s0 + s1)), zI (w32 (l7 + 1)), zI l10, zI (w32 (l9 + 1)), zI l10]) zp245 rfl rfl rfl rfl ?_
          refine g_goto zp245 rfl ?_
          exact g_weak (ls' := [zR 81, zJ, zJ, zI l3, zI l4, zI l5, zI (w32 (s0 + s1)), zI (w32 (l7 + 1)), zI l10, zI (w32 (l9 + 1)), zJ]) ⟨Or.inr rfl, Or.inr rfl, Or.inr rfl, Or.inr rfl, Or.inr rfl, Or.inr rfl, Or.inr rfl, Or.inr rfl, Or.inr rfl, Or.inr rfl, Or.inl rfl, trivial⟩ h
theorem zp246 : zprog.getD 246 [] = zk246 := rfl
theorem x246_0 {w : zWt} {d : Nat} {H : zHt} {K : Int → zHt → Prop} {l1 : Int} {l2 : Int} {l3 : Int}
    (h : (¬ l1 = 0 → zclI w d 223 [zR 81, zI l2] H (fun x3 H2 => (x3 = 0 → zclI w d 174 [zR 81, zI 2] H2 (fun x6 H5 => (¬ x6 = 0 → zclV w d 244 [zR 81, zI l3] H5 (fun H8 => (0 ≤ l2 ∧ l2 < 10) ∧ zclV w d 226 [zR 81, zI (H8 82 l2)] H8 (fun H11 => K 1 H11))) ∧ (x6 = 0 → K 0 H5))) ∧ (¬ x3 = 0 → zclI w d 223 [zR 81, zI l3] H2 (fun x14 H13 => (¬ x14 = 0 → (¬ l2 = l3 → zclI w d 174 [zR 81, zI 0] H13 (fun x18 H17 => (¬ x18 = 0 → zclV w d 244 [zR 81, zI l3] H17 (fun H20 => (0 ≤ l2 ∧ l2 < 10) ∧ zclV w d 226 [zR 81, zI (H20 82 l2)] H20 (fun H23 => K 1 H23))) ∧ (x18 = 0 → K 0 H17))) ∧ (l2 = l3 → zclI w d 174 [zR 81, zI 4] H13 (fun x26 H25 => (¬ x26 = 0 → zclV w d 244 [zR 81, zI l3] H25 (fun H28 => (0 ≤ l2 ∧ l2 < 10) ∧ zclV w d 226 [zR 81, zI (H28 82 l2)] H28 (fun H31 => K 1 H31))) ∧ (x26 = 0 → K 0 H25)))) ∧ (x14 = 0 → zclI w d 174 [zR 81, zI 2] H13 (fun x34 H33 => (¬ x34 = 0 → zclV w d 244 [zR 81, zI l3] H33 (fun H36 => (0 ≤ l2 ∧ l2 < 10) ∧ zclV w d 226 [zR 81, zI (H36 82 l2)] H36 (fun H39 => K 1 H39))) ∧ (x34 = 0 → K 0 H33))))))) ∧ (l1 = 0 → zclI w d 174 [zR 81, zI 1] H (fun x42 H41 => (¬ x42 = 0 → zclV w d 244 [zR 81, zI l3] H41 (fun H44 => (0 ≤ l2 ∧ l2 < 10) ∧ zclV w d 226 [zR 81, zI (H44 82 l2)] H44 (fun H47 => K 1 H47))) ∧ (x42 = 0 → K 0 H41)))) :
    zclI w (d + 1) 246 [zR 81, zI l1, zI l2, zI l3] H K := by
  show zgo w (d + 1) 246 0 [zR 81, zI l1, zI l2, zI l3, zJ] [] H (zQI K)
  refine g_il zp246 rfl rfl rfl ?_
  refine g_if zp246 rfl rfl zc1 (fun c1 => ?_) (fun c1 => ?_)
  · replace h := h.1 c1
    refine g_al zp246 rfl rfl rfl (by decide) ?_
    refine g_il zp246 rfl rfl rfl ?_
    refine g_callI (as := [zR 81, zI l2]) (rest := []) zp246 rfl rfl (Nat.succ_pos _) rfl rfl (Nat.le_of_ble_eq_true rfl) (Nat.le_of_ble_eq_true rfl) rfl rfl h (fun x3 H2 h => ?_)
    refine g_if zp246 rfl rfl zc0 (fun c4 => ?_) (fun c4 => ?_)
    · replace h := h.1 c4
      refine g_ic zp246 rfl rfl ?_
      refine g_goto zp246 rfl ?_
      refine g_is (ls' := [zR 81, zI l1, zI l2, zI l3, zI 2]) zp246 rfl rfl (Nat.le_of_ble_eq_true rfl) rfl ?_
      refine g_al zp246 rfl rfl rfl (by decide) ?_
      refine g_il zp246 rfl rfl rfl ?_
      refine g_callI (as := [zR 81, zI 2]) (rest := []) zp246 rfl rfl (Nat.succ_pos _) rfl rfl (Nat.le_of_ble_eq_true rfl) (Nat.le_of_ble_eq_true rfl) rfl rfl h (fun x6 H5 h => ?_)
      refine g_if zp246 rfl rfl zc1 (fun c7 => ?_) (fun c7 => ?_)
      · replace h := h.1 c7
        refine g_al zp246 rfl rfl rfl (by decide) ?_
        refine g_il zp246 rfl rfl rfl ?_
        refine g_callV (as := [zR 81, zI l3]) (rest := []) zp246 rfl rfl (Nat.succ_pos _) rfl rfl (Nat.le_of_ble_eq_true rfl) (Nat.le_of_ble_eq_true rfl) rfl rfl h (fun H8 h => ?_)
        refine g_al zp246 rfl rfl rfl (by decide) ?_
        refine g_al zp246 rfl rfl rfl (by decide) ?_
        refine g_get (v := zR 82) zp246 rfl rfl rfl ⟨rfl, by decide, (by decide)⟩ rfl ?_
        refine g_il zp246 rfl rfl rfl ?_
        obtain ⟨c10, h⟩ := h
        refine g_ald (v := zI (H8 82 l2)) zp246 rfl rfl rfl rfl c10 rfl ?_
        refine g_callV (as := [zR 81, zI (H8 82 l2)]) (rest := []) zp246 rfl rfl (Nat.succ_pos _) rfl rfl (Nat.le_of_ble_eq_true rfl) (Nat.le_of_ble_eq_true rfl) rfl rfl h (fun H11 h => ?_)
        refine g_ic zp246 rfl rfl ?_
        exact g_ret zp246 rfl (zret_b (by decide)) ⟨_, rfl, h⟩
      · replace h := h.2 c7
        refine g_ic zp246 rfl rfl ?_
        exact g_ret zp246 rfl (zret_b (by decide)) ⟨_, rfl, h⟩
    · replace h := h.2 c4
      refine g_al zp246 rfl rfl rfl (by decide) ?_
      refine g_il zp246 rfl rfl rfl ?_
      refine g_callI (as := [zR 81, zI l3]) (rest := []) zp246 rfl rfl (Nat.succ_pos _) rfl rfl (Nat.le_of_ble_eq_true rfl) (Nat.le_of_ble_eq_true rfl) rfl rfl h (fun x14 H13 h => ?_)
      refine g_if zp246 rfl rfl zc1 (fun c15 => ?_) (fun c15 => ?_)
      · replace h := h.1 c15
        refine g_il zp246 rfl rfl rfl ?_
        refine g_il zp246 rfl rfl rfl ?_
        refine g_icmp zp246 rfl rfl zc1 (fun c16 => ?_) (fun c16 => ?_)
        · replace h := h.1 c16
          refine g_ic zp246 rfl rfl ?_
          refine g_is (ls' := [zR 81, zI l1, zI l2, zI l3, zI 0]) zp246 rfl rfl (Nat.le_of_ble_eq_true rfl) rfl ?_
          refine g_al zp246 rfl rfl rfl (by decide) ?_
          refine g_il zp246 rfl rfl rfl ?_
          refine g_callI (as := [zR 81, zI 0]) (rest := []) zp246 rfl rfl (Nat.succ_pos _) rfl rfl (Nat.le_of_ble_eq_true rfl) (Nat.le_of_ble_eq_true rfl) rfl rfl h (fun x18 H17 h => ?_)
          refine g_if zp246 rfl rfl zc1 (fun c19 => ?_) (fun c19 => ?_)
          · replace h := h.1 c19
            refine g_al zp246 rfl rfl rfl (by decide) ?_
            refine g_il zp246 rfl rfl rfl ?_
            refine g_callV (as := [zR 81, zI l3]) (rest := []) zp246 rfl rfl (Nat.succ_pos _) rfl rfl (Nat.le_of_ble_eq_true rfl) (Nat.le_of_ble_eq_true rfl) rfl rfl h (fun H20 h => ?_)
            refine g_al zp246 rfl rfl rfl (by decide) ?_
            refine g_al zp246 rfl rfl rfl (by decide) ?_
            refine g_get (v := zR 82) zp246 rfl rfl rfl ⟨rfl, by decide, (by decide)⟩ rfl ?_
            refine g_il zp246 rfl rfl rfl ?_
            obtain ⟨c22, h⟩ := h
            refine g_ald (v := zI (H20 82 l2)) zp246 rfl rfl rfl rfl c22 rfl ?_
            refine g_callV (as := [zR 81, zI (H20 82 l2)]) (rest := []) zp246 rfl rfl (Nat.succ_pos _) rfl rfl (Nat.le_of_ble_eq_true rfl) (Nat.le_of_ble_eq_true rfl) rfl rfl h (fun H23 h => ?_)
            refine g_ic zp246 rfl rfl ?_
            exact g_ret zp246 rfl (zret_b (by decide)) ⟨_, rfl, h⟩
          · replace h := h.2 c19
            refine g_ic zp246 rfl rfl ?_
            exact g_ret zp246 rfl (zret_b (by decide)) ⟨_, rfl, h⟩
        · replace h := h.2 c16
          refine g_ic zp246 rfl rfl ?_
          refine g_goto zp246 rfl ?_
          refine g_is (ls' := [zR 81, zI l1, zI l2, zI l3, zI 4]) zp246 rfl rfl (Nat.le_of_ble_eq_true rfl) rfl ?_
          refine g_al zp246 rfl rfl rfl (by decide) ?_
          refine g_il zp246 rfl rfl rfl ?_
          refine g_callI (as := [zR 81, zI 4]) (rest := []) zp246 rfl rfl (Nat.succ_pos _) rfl rfl (Nat.le_of_ble_eq_true rfl) (Nat.le_of_ble_eq_true rfl) rfl rfl h (fun x26 H25 h => ?_)
          refine g_if zp246 rfl rfl zc1 (fun c27 => ?_) (fun c27 => ?_)
          · replace h := h.1 c27
            refine g_al zp246 rfl rfl rfl (by decide) ?_
            refine g_il zp246 rfl rfl rfl ?_
            refine g_callV (as := [zR 81, zI l3]) (rest := []) zp246 rfl rfl (Nat.succ_pos _) rfl rfl (Nat.le_of_ble_eq_true rfl) (Nat.le_of_ble_eq_true rfl) rfl rfl h (fun H28 h => ?_)
            refine g_al zp246 rfl rfl rfl (by decide) ?_
            refine g_al zp246 rfl rfl rfl (by decide) ?_
            refine g_get (v := zR 82) zp246 rfl rfl rfl ⟨rfl, by decide, (by decide)⟩ rfl ?_
            refine g_il zp246 rfl rfl rfl ?_
            obtain ⟨c30, h⟩ := h
            refine g_ald (v := zI (H28 82 l2)) zp246 rfl rfl rfl rfl c30 rfl ?_
            refine g_callV (as := [zR 81, zI (H28 82 l2)]) (rest := []) zp246 rfl rfl (Nat.succ_pos _) rfl rfl (Nat.le_of_ble_eq_true rfl) (Nat.le_of_ble_eq_true rfl) rfl rfl h (fun H31 h => ?_)
            refine g_ic zp246 rfl rfl ?_
            exact g_ret zp246 rfl (zret_b (by decide)) ⟨_, rfl, h⟩
          · replace h := h.2 c27
            refine g_ic zp246 rfl rfl ?_
            exact g_ret zp246 rfl (zret_b (by decide)) ⟨_, rfl, h⟩
      · replace h := h.2 c15
        refine g_ic zp246 rfl rfl ?_
        refine g_goto zp246 rfl ?_
        refine g_is (ls' := [zR 81, zI l1, zI l2, zI l3, zI 2]) zp246 rfl rfl (Nat.le_of_ble_eq_true rfl) rfl ?_
        refine g_al zp246 rfl rfl rfl (by decide) ?_
        refine g_il zp246 rfl rfl rfl ?_
        refine g_callI (as := [zR 81, zI 2]) (rest := []) zp246 rfl rfl (Nat.succ_pos _) rfl rfl (Nat.le_of_ble_eq_true rfl) (Nat.le_of_ble_eq_true rfl) rfl rfl h (fun x34 H33 h => ?_)
        refine g_if zp246 rfl rfl zc1 (fun c35 => ?_) (fun c35 => ?_)
        · replace h := h.1 c35
          refine g_al zp246 rfl rfl rfl (by decide) ?_
          refine g_il zp246 rfl rfl rfl ?_
          refine g_callV (as := [zR 81, zI l3]) (rest := []) zp246 rfl rfl (Nat.succ_pos _) rfl rfl (Nat.le_of_ble_eq_true rfl) (Nat.le_of_ble_eq_true rfl) rfl rfl h (fun H36 h => ?_)
          refine g_al zp246 rfl rfl rfl (by decide) ?_
          refine g_al zp246 rfl rfl rfl (by decide) ?_
          refine g_get (v := zR 82) zp246 rfl rfl rfl ⟨rfl, by decide, (by decide)⟩ rfl ?_
          refine g_il zp246 rfl rfl rfl ?_
          obtain ⟨c38, h⟩ := h
          refine g_ald (v := zI (H36 82 l2)) zp246 rfl rfl rfl rfl c38 rfl ?_
          refine g_callV (as := [zR 81, zI (H36 82 l2)]) (rest := []) zp246 rfl rfl (Nat.succ_pos _) rfl rfl (Nat.le_of_ble_eq_true rfl) (Nat.le_of_ble_eq_true rfl) rfl rfl h (fun H39 h => ?_)
          refine g_ic zp246 rfl rfl ?_
          exact g_ret zp246 rfl (zret_b (by decide)) ⟨_, rfl, h⟩
        · replace h := h.2 c35
          refine g_ic zp246 rfl rfl ?_
          exact g_ret zp246 rfl (zret_b (by decide)) ⟨_, rfl, h⟩
  · replace h := h.2 c1
    refine g_ic zp246 rfl rfl ?_
    refine g_goto zp246 rfl ?_
    refine g_is (ls' := [zR 81, zI l1, zI l2, zI l3, zI 1]) zp246 rfl rfl (Nat.le_of_ble_eq_true rfl) rfl ?_
    refine g_al zp246 rfl rfl rfl (by decide) ?_
    refine g_il zp246 rfl rfl rfl ?_
    refine g_callI (as := [zR 81, zI 1]) (rest := []) zp246 rfl rfl (Nat.succ_pos _) rfl rfl (Nat.le_of_ble_eq_true rfl) (Nat.le_of_ble_eq_true rfl) rfl rfl h (fun x42 H41 h => ?_)
    refine g_if zp246 rfl rfl zc1 (fun c43 => ?_) (fun c43 => ?_)
    · replace h := h.1 c43
      refine g_al zp246 rfl rfl rfl (by decide) ?_
      refine g_il zp246 rfl rfl rfl ?_
      refine g_callV (as := [zR 81, zI l3]) (rest := []) zp246 rfl rfl (Nat.succ_pos _) rfl rfl (Nat.le_of_ble_eq_true rfl) (Nat.le_of_ble_eq_true rfl) rfl rfl h (fun H44 h => ?_)
      refine g_al zp246 rfl rfl rfl (by decide) ?_
      refine g_al zp246 rfl rfl rfl (by decide) ?_
      refine g_get (v := zR 82) zp246 rfl rfl rfl ⟨rfl, by decide, (by decide)⟩ rfl ?_
      refine g_il zp246 rfl rfl rfl ?_
      obtain ⟨c46, h⟩ := h
      refine g_ald (v := zI (H44 82 l2)) zp246 rfl rfl rfl rfl c46 rfl ?_
      refine g_callV (as := [zR 81, zI (H44 82 l2)]) (rest := []) zp246 rfl rfl (Nat.succ_pos _) rfl rfl (Nat.le_of_ble_eq_true rfl) (Nat.le_of_ble_eq_true rfl) rfl rfl h (fun H47 h => ?_)
      refine g_ic zp246 rfl rfl ?_
      exact g_ret zp246 rfl (zret_b (by decide)) ⟨_, rfl, h⟩
    · replace h := h.2 c43
      refine g_ic zp246 rfl rfl ?_
      exact g_ret zp246 rfl (zret_b (by decide)) ⟨_, rfl, h⟩
theorem zp247 : zprog.getD 247 [] = zk247 := rfl
theorem x247_0 {w : zWt} {d : Nat} {H : zHt} {K : Int → zHt → Prop} {l1 : Int} {l2 : Int} {l3 : Int}
    (h : zclI w d 173 [zL l3, zL 0, zL 2] H (fun x2 H1 => zclI w d 246 [zR 81, zI x2, zI l1, zI l2] H1 (fun x4 H3 => (¬ x4 = 0 → zgo w (d + 1) 247 23 [zR 81, zJ, zJ, zI l3, zI 0, zJ] [] H3 (zQI K)) ∧ (x4 = 0 → K (-1) H3)))) :
    zclI w (d + 1) 247 [zR 81, zI l1, zI l2, zI l3] H K := by
  show zgo w (d + 1) 247 0 [zR 81, zI l1, zI l2, zI l3, zJ, zJ] [] H (zQI K)
  refine g_al zp247 rfl rfl rfl (by decide) ?_
  refine g_il zp247 rfl rfl rfl ?_
  refine g_i2l zp247 rfl rfl ?_
  refine g_lc zp247 rfl rfl ?_
  refine g_lc zp247 rfl rfl ?_
  refine g_callI (as := [zL l3, zL 0, zL 2]) (rest := [zR 81]) zp247 rfl rfl (Nat.succ_pos _) rfl rfl (Nat.le_of_ble_eq_true rfl) (Nat.le_of_ble_eq_true rfl) rfl rfl h (fun x2 H1 h => ?_)
  refine g_il zp247 rfl rfl rfl ?_
  refine g_il zp247 rfl rfl rfl ?_
  refine g_callI (as := [zR 81, zI x2, zI l1, zI l2]) (rest := []) zp247 rfl rfl (Nat.succ_pos _) rfl rfl (Nat.le_of_ble_eq_true rfl) (Nat.le_of_ble_eq_true rfl) rfl rfl h (fun x4 H3 h => ?_)
  refine g_if zp247 rfl rfl zc1 (fun c5 => ?_) (fun c5 => ?_)
  · replace h := h.1 c5
    refine g_ic zp247 rfl rfl ?_
    refine g_is (ls' := [zR 81, zI l1, zI l2, zI l3, zI 0, zJ]) zp247 rfl rfl (Nat.le_of_ble_eq_true rfl) rfl ?_
    exact g_weak (ls' := [zR 81, zJ, zJ, zI l3, zI 0, zJ]) ⟨Or.inr rfl, Or.inl rfl, Or.inl rfl, Or.inr rfl, Or.inr rfl, Or.inr rfl, trivial⟩ h
  · replace h := h.2 c5
    refine g_ic zp247 rfl rfl ?_
    exact g_ret zp247 rfl rfl ⟨_, rfl, h⟩
theorem x247_23 {w : zWt} {d : Nat} {H : zHt} {K : Int → zHt → Prop} {l3 : Int} {l4 : Int}
    (h : ((H 81 21) ≤ l4 → zclI w d 178 [zR 81, zI 5] H (fun x3 H2 => K x3 H2)) ∧ (l4 < (H 81 21) → (0 ≤ l4 ∧ l4 < 101) ∧ zclI w d 248 [zR 81, zI (H 94 l4)] H (fun x6 H5 => (x6 < 0 → zgo w (d + 1) 247 23 [zR 81, zJ, zJ, zI l3, zI (w32 (l4 + 1)), zJ] [] H5 (zQI K)) ∧ (0 ≤ x6 → (¬ l3 = 0 → (¬ l3 = 1 → K x6 H5) ∧ (l3 = 1 → K l4 H5)) ∧ (l3 = 0 → K (H5 94 l4) H5))))) :
    zgo w (d + 1) 247 23 [zR 81, zJ, zJ, zI l3, zI l4, zJ] [] H (zQI K) := by
  refine g_il zp247 rfl rfl rfl ?_
  refine g_al zp247 rfl rfl rfl (by decide) ?_
  refine g_get (v := zI (H 81 21)) zp247 rfl rfl rfl ⟨rfl, by decide, (by decide)⟩ rfl ?_
  refine g_icmp zp247 rfl rfl zc3 (fun c1 => ?_) (fun c1 => ?_)
  · replace h := h.1 c1
    refine g_al zp247 rfl rfl rfl (by decide) ?_
    refine g_ic zp247 rfl rfl ?_
    refine g_callI (as := [zR 81, zI 5]) (rest := []) zp247 rfl rfl (Nat.succ_pos _) rfl rfl (Nat.le_of_ble_eq_true rfl) (Nat.le_of_ble_eq_true rfl) rfl rfl h (fun x3 H2 h => ?_)
    exact g_ret zp247 rfl rfl ⟨_, rfl, h⟩
  · replace h := h.2 c1
    refine g_al zp247 rfl rfl rfl (by decide) ?_
    refine g_al zp247 rfl rfl rfl (by decide) ?_
    refine g_get (v := zR 94) zp247 rfl rfl rfl ⟨rfl, by decide, (by decide)⟩ rfl ?_
    refine g_il zp247 rfl rfl rfl ?_
    obtain ⟨c4, h⟩ := h
    refine g_ald (v := zI (H 94 l4)) zp247 rfl rfl rfl rfl c4 rfl ?_
    refine g_callI (as := [zR 81, zI (H 94 l4)]) (rest := []) zp247 rfl rfl (Nat.succ_pos _) rfl rfl (Nat.le_of_ble_eq_true rfl) (Nat.le_of_ble_eq_true rfl) rfl rfl h (fun x6 H5 h => ?_)
    refine g_is (ls' := [zR 81, zJ, zJ, zI l3, zI l4, zI x6]) zp247 rfl rfl (Nat.le_of_ble_eq_true rfl) rfl ?_
    refine g_il zp247 rfl rfl rfl ?_
    refine g_if zp247 rfl rfl zc2 (fun c7 => ?_) (fun c7 => ?_)
    · replace h := h.1 c7
      refine g_inc (ls' := [zR 81, zJ, zJ, zI l3, zI (w32 (l4 + 1)), zI x6]) zp247 rfl rfl rfl rfl ?_
      refine g_goto zp247 rfl ?_
      exact g_weak (ls' := [zR 81, zJ, zJ, zI l3, zI (w32 (l4 + 1)), zJ]) ⟨Or.inr rfl, Or.inr rfl, Or.inr rfl, Or.inr rfl, Or.inr rfl, Or.inl rfl, trivial⟩ h
    · replace h := h.2 c7
      refine g_il zp247 rfl rfl rfl ?_
      refine g_if zp247 rfl rfl zc1 (fun c8 => ?_) (fun c8 => ?_)
      · replace h := h.1 c8
        refine g_il zp247 rfl rfl rfl ?_
        refine g_ic zp247 rfl rfl ?_
        refine g_icmp zp247 rfl rfl zc1 (fun c9 => ?_) (fun c9 => ?_)
        · replace h := h.1 c9
          refine g_il zp247 rfl rfl rfl ?_
          exact g_ret zp247 rfl rfl ⟨_, rfl, h⟩
        · replace h := h.2 c9
          refine g_il zp247 rfl rfl rfl ?_
          refine g_goto zp247 rfl ?_
          exact g_ret zp247 rfl rfl ⟨_, rfl, h⟩
      · replace h := h.2 c8
        refine g_al zp247 rfl rfl rfl (by decide) ?_
        refine g_get (v := zR 94) zp247 rfl rfl rfl ⟨rfl, by decide, (by decide)⟩ rfl ?_
        refine g_il zp247 rfl rfl rfl ?_
        refine g_ald (v := zI (H5 94 l4)) zp247 rfl rfl rfl rfl c4 rfl ?_
        refine g_goto zp247 rfl ?_
        exact g_ret zp247 rfl rfl ⟨_, rfl, h⟩
theorem zp248 : zprog.getD 248 [] = zk248 := rfl
theorem x248_0 {w : zWt} {d : Nat} {H : zHt} {K : Int → zHt → Prop} {l1 : Int}
    (h : zgo w d 248 2 [zR 81, zI l1, zI 0] [] H (zQI K)) :
    zclI w d 248 [zR 81, zI l1] H K := by
  show zgo w d 248 0 [zR 81, zI l1, zJ] [] H (zQI K)
  refine g_ic zp248 rfl rfl ?_
  refine g_is (ls' := [zR 81, zI l1, zI 0]) zp248 rfl rfl (Nat.le_of_ble_eq_true rfl) rfl ?_
  exact g_weak (ls' := [zR 81, zI l1, zI 0]) ⟨Or.inr rfl, Or.inr rfl, Or.inr rfl, trivial⟩ h
theorem x248_2 {w : zWt} {d : Nat} {H : zHt} {K : Int → zHt → Prop} {l1 : Int} {l2 : Int}
    (h : ((H 81 24) ≤ l2 → K (-1) H) ∧ (l2 < (H 81 24) → (0 ≤ l2 ∧ l2 < 101) ∧ (¬ (H 95 l2) = l1 → zgo w d 248 2 [zR 81, zI l1, zI (w32 (l2 + 1))] [] H (zQI K)) ∧ ((H 95 l2) = l1 → K l2 H))) :
    zgo w d 248 2 [zR 81, zI l1, zI l2] [] H (zQI K) := by
  refine g_il zp248 rfl rfl rfl ?_
  refine g_al zp248 rfl rfl rfl (by decide) ?_
  refine g_get (v := zI (H 81 24)) zp248 rfl rfl rfl ⟨rfl, by decide, (by decide)⟩ rfl ?_
  refine g_icmp zp248 rfl rfl zc3 (fun c1 => ?_) (fun c1 => ?_)
  · replace h := h.1 c1
    refine g_ic zp248 rfl rfl ?_
    exact g_ret zp248 rfl rfl ⟨_, rfl, h⟩
  · replace h := h.2 c1
    refine g_al zp248 rfl rfl rfl (by decide) ?_
    refine g_get (v := zR 95) zp248 rfl rfl rfl ⟨rfl, by decide, (by decide)⟩ rfl ?_
    refine g_il zp248 rfl rfl rfl ?_
    obtain ⟨c2, h⟩ := h
    refine g_ald (v := zI (H 95 l2)) zp248 rfl rfl rfl rfl c2 rfl ?_
    refine g_il zp248 rfl rfl rfl ?_
    refine g_icmp zp248 rfl rfl zc1 (fun c3 => ?_) (fun c3 => ?_)
    · replace h := h.1 c3
      refine g_inc (ls' := [zR 81, zI l1, zI (w32 (l2 + 1))]) zp248 rfl rfl rfl rfl ?_
      refine g_goto zp248 rfl ?_
      exact g_weak (ls' := [zR 81, zI l1, zI (w32 (l2 + 1))]) ⟨Or.inr rfl, Or.inr rfl, Or.inr rfl, trivial⟩ h
    · replace h := h.2 c3
      refine g_il zp248 rfl rfl rfl ?_
      exact g_ret zp248 rfl rfl ⟨_, rfl, h⟩
theorem zp249 : zprog.getD 249 [] = zk249 := rfl
theorem x249_0 {w : zWt} {d : Nat} {H : zHt} {K : Int → zHt → Prop} {l1 : Int}
    (h : zclI w d 222 [zR 81, zI 1, zI l1] H (fun x2 H1 => zclI w d 174 [zR 81, zI x2] H1 (fun x4 H3 => (¬ x4 = 0 → zclL w d 250 [zR 81, zI l1] H3 (fun x7 H6 => zgo w (d + 1) 249 27 [zR 81, zJ, zL x7, zJ, zI 0, zI 0] [] H6 (zQI K))) ∧ (x4 = 0 → K (-1) H3)))) :
    zclI w (d + 1) 249 [zR 81, zI l1] H K := by
  show zgo w (d + 1) 249 0 [zR 81, zI l1, zJ, zJ, zJ, zJ] [] H (zQI K)
  refine g_al zp249 rfl rfl rfl (by decide) ?_
  refine g_al zp249 rfl rfl rfl (by decide) ?_
  refine g_ic zp249 rfl rfl ?_
  refine g_il zp249 rfl rfl rfl ?_
  refine g_callI (as := [zR 81, zI 1, zI l1]) (rest := [zR 81]) zp249 rfl rfl (Nat.succ_pos _) rfl rfl (Nat.le_of_ble_eq_true rfl) (Nat.le_of_ble_eq_true rfl) rfl rfl h (fun x2 H1 h => ?_)
  refine g_callI (as := [zR 81, zI x2]) (rest := []) zp249 rfl rfl (Nat.succ_pos _) rfl rfl (Nat.le_of_ble_eq_true rfl) (Nat.le_of_ble_eq_true rfl) rfl rfl h (fun x4 H3 h => ?_)
  refine g_if zp249 rfl rfl zc1 (fun c5 => ?_) (fun c5 => ?_)
  · replace h := h.1 c5
    refine g_al zp249 rfl rfl rfl (by decide) ?_
    refine g_il zp249 rfl rfl rfl ?_
    refine g_callL (as := [zR 81, zI l1]) (rest := []) zp249 rfl rfl (Nat.succ_pos _) rfl rfl (Nat.le_of_ble_eq_true rfl) (Nat.le_of_ble_eq_true rfl) rfl rfl h (fun x7 H6 h => ?_)
    refine g_ls (ls' := [zR 81, zI l1, zL x7, zJ, zJ, zJ]) zp249 rfl rfl (Nat.le_of_ble_eq_true rfl) rfl ?_
    refine g_ic zp249 rfl rfl ?_
    refine g_is (ls' := [zR 81, zI l1, zL x7, zJ, zI 0, zJ]) zp249 rfl rfl (Nat.le_of_ble_eq_true rfl) rfl ?_
    refine g_ic zp249 rfl rfl ?_
    refine g_is (ls' := [zR 81, zI l1, zL x7, zJ, zI 0, zI 0]) zp249 rfl rfl (Nat.le_of_ble_eq_true rfl) rfl ?_
    exact g_weak (ls' := [zR 81, zJ, zL x7, zJ, zI 0, zI 0]) ⟨Or.inr rfl, Or.inl rfl, Or.inr rfl, Or.inr rfl, Or.inr rfl, Or.inr rfl, trivial⟩ h
  · replace h := h.2 c5
    refine g_ic zp249 rfl rfl ?_
    exact g_ret zp249 rfl rfl ⟨_, rfl, h⟩
theorem x249_27 {w : zWt} {d : Nat} {H : zHt} {K : Int → zHt → Prop} {l2 : Int} {l4 : Int} {l5 : Int}
    (h : ((H 82 6) ≤ l5 → K l4 H) ∧ (l5 < (H 82 6) → zclL w d 250 [zR 81, zI l5] H (fun x3 H2 => (¬ x3 = l2 → zgo w (d + 1) 249 27 [zR 81, zJ, zL l2, zJ, zI (zor l4 0), zI (w32 (l5 + 1))] [] H2 (zQI K)) ∧ (x3 = l2 → zgo w (d + 1) 249 27 [zR 81, zJ, zL l2, zJ, zI (zor l4 (zshl 1 l5)), zI (w32 (l5 + 1))] [] H2 (zQI K))))) :
    zgo w (d + 1) 249 27 [zR 81, zJ, zL l2, zJ, zI l4, zI l5] [] H (zQI K) := by
  refine g_il zp249 rfl rfl rfl ?_
  refine g_al zp249 rfl rfl rfl (by decide) ?_
  refine g_get (v := zR 82) zp249 rfl rfl rfl ⟨rfl, by decide, (by decide)⟩ rfl ?_
  refine g_ic zp249 rfl rfl ?_
  refine g_ald (v := zI (H 82 6)) zp249 rfl rfl rfl rfl (by decide) rfl ?_
  refine g_icmp zp249 rfl rfl zc3 (fun c1 => ?_) (fun c1 => ?_)
  · replace h := h.1 c1
    refine g_il zp249 rfl rfl rfl ?_
    exact g_ret zp249 rfl rfl ⟨_, rfl, h⟩
  · replace h := h.2 c1
    refine g_il zp249 rfl rfl rfl ?_
    refine g_al zp249 rfl rfl rfl (by decide) ?_
    refine g_il zp249 rfl rfl rfl ?_
    refine g_callL (as := [zR 81, zI l5]) (rest := [zI l4]) zp249 rfl rfl (Nat.succ_pos _) rfl rfl (Nat.le_of_ble_eq_true rfl) (Nat.le_of_ble_eq_true rfl) rfl rfl h (fun x3 H2 h => ?_)
    refine g_ll zp249 rfl rfl rfl ?_
    refine g_lcmp zp249 rfl rfl rfl rfl zc1 (fun c4 => ?_) (fun c4 => ?_)
    · replace h := h.1 c4
      refine g_ic zp249 rfl rfl ?_
      refine g_ar (r := zor l4 0) zp249 rfl rfl rfl ?_
      refine g_is (ls' := [zR 81, zJ, zL l2, zJ, zI (zor l4 0), zI l5]) zp249 rfl rfl (Nat.le_of_ble_eq_true rfl) rfl ?_
      refine g_inc (ls' := [zR 81, zJ, zL l2, zJ, zI (zor l4 0), zI (w32 (l5 + 1))]) zp249 rfl rfl rfl rfl ?_
      refine g_goto zp249 rfl ?_
      exact g_weak (ls' := [zR 81, zJ, zL l2, zJ, zI (zor l4 0), zI (w32 (l5 + 1))]) ⟨Or.inr rfl, Or.inr rfl, Or.inr rfl, Or.inr rfl, Or.inr rfl, Or.inr rfl, trivial⟩ h
    · replace h := h.2 c4
      refine g_ic zp249 rfl rfl ?_
      refine g_il zp249 rfl rfl rfl ?_
      refine g_ar (r := zshl 1 l5) zp249 rfl rfl rfl ?_
      refine g_goto zp249 rfl ?_
      refine g_ar (r := zor l4 (zshl 1 l5)) zp249 rfl rfl rfl ?_
      refine g_is (ls' := [zR 81, zJ, zL l2, zJ, zI (zor l4 (zshl 1 l5)), zI l5]) zp249 rfl rfl (Nat.le_of_ble_eq_true rfl) rfl ?_
      refine g_inc (ls' := [zR 81, zJ, zL l2, zJ, zI (zor l4 (zshl 1 l5)), zI (w32 (l5 + 1))]) zp249 rfl rfl rfl rfl ?_
      refine g_goto zp249 rfl ?_
      exact g_weak (ls' := [zR 81, zJ, zL l2, zJ, zI (zor l4 (zshl 1 l5)), zI (w32 (l5 + 1))]) ⟨Or.inr rfl, Or.inr rfl, Or.inr rfl, Or.inr rfl, Or.inr rfl, Or.inr rfl, trivial⟩ h
theorem zp250 : zprog.getD 250 [] = zk250 := rfl
theorem x250_0 {w : zWt} {d : Nat} {H : zHt} {K : Int → zHt → Prop} {l1 : Int}
    (h : (0 ≤ l1 ∧ l1 < 10) ∧ zclV w d 226 [zR 81, zI (H 82 l1)] H (fun H2 => ((H2 81 22) = 1 → zclI w d 231 [zR 81] H2 (fun x6 H5 => K (w64 ((w64 ((w64 (4 + (w64 (1000 * x6)))) + (H5 81 21))) - (H5 81 23))) H5)) ∧ (¬ (H2 81 22) = 1 → K (H2 81 22) H2))) :
    zclL w (d + 1) 250 [zR 81, zI l1] H K := by
  show zgo w (d + 1) 250 0 [zR 81, zI l1] [] H (zQL K)
  refine g_al zp250 rfl rfl rfl (by decide) ?_
  refine g_al zp250 rfl rfl rfl (by decide) ?_
  refine g_get (v := zR 82) zp250 rfl rfl rfl ⟨rfl, by decide, (by decide)⟩ rfl ?_
  refine g_il zp250 rfl rfl rfl ?_
  obtain ⟨c1, h⟩ := h
  refine g_ald (v := zI (H 82 l1)) zp250 rfl rfl rfl rfl c1 rfl ?_
  refine g_callV (as := [zR 81, zI (H 82 l1)]) (rest := []) zp250 rfl rfl (Nat.succ_pos _) rfl rfl (Nat.le_of_ble_eq_true rfl) (Nat.le_of_ble_eq_true rfl) rfl rfl h (fun H2 h => ?_)
  refine g_al zp250 rfl rfl rfl (by decide) ?_
  refine g_get (v := zI (H2 81 22)) zp250 rfl rfl rfl ⟨rfl, by decide, (by decide)⟩ rfl ?_
  refine g_ic zp250 rfl rfl ?_
  refine g_icmp zp250 rfl rfl zc0 (fun c4 => ?_) (fun c4 => ?_)
  · replace h := h.1 c4
    refine g_lc zp250 rfl rfl ?_
    refine g_lc zp250 rfl rfl ?_
    refine g_al zp250 rfl rfl rfl (by decide) ?_
    refine g_callI (as := [zR 81]) (rest := [zL 1000, zL 4]) zp250 rfl rfl (Nat.succ_pos _) rfl rfl (Nat.le_of_ble_eq_true rfl) (Nat.le_of_ble_eq_true rfl) rfl rfl h (fun x6 H5 h => ?_)
    refine g_i2l zp250 rfl rfl ?_
    refine g_lar (r := w64 (1000 * x6)) zp250 rfl rfl rfl ?_
    refine g_lar (r := w64 (4 + (w64 (1000 * x6)))) zp250 rfl rfl rfl ?_
    refine g_al zp250 rfl rfl rfl (by decide) ?_
    refine g_get (v := zI (H5 81 21)) zp250 rfl rfl rfl ⟨rfl, by decide, (by decide)⟩ rfl ?_
    refine g_i2l zp250 rfl rfl ?_
    refine g_lar (r := w64 ((w64 (4 + (w64 (1000 * x6)))) + (H5 81 21))) zp250 rfl rfl rfl ?_
    refine g_al zp250 rfl rfl rfl (by decide) ?_
    refine g_get (v := zI (H5 81 23)) zp250 rfl rfl rfl ⟨rfl, by decide, (by decide)⟩ rfl ?_
    refine g_i2l zp250 rfl rfl ?_
    refine g_lar (r := w64 ((w64 ((w64 (4 + (w64 (1000 * x6)))) + (H5 81 21))) - (H5 81 23))) zp250 rfl rfl rfl ?_
    exact g_ret zp250 rfl rfl ⟨_, rfl, h⟩
  · replace h := h.2 c4
    refine g_al zp250 rfl rfl rfl (by decide) ?_
    refine g_get (v := zI (H2 81 22)) zp250 rfl rfl rfl ⟨rfl, by decide, (by decide)⟩ rfl ?_
    refine g_i2l zp250 rfl rfl ?_
    refine g_goto zp250 rfl ?_
    exact g_ret zp250 rfl rfl ⟨_, rfl, h⟩
theorem zp251 : zprog.getD 251 [] = zk251 := rfl
theorem x251_0 {w : zWt} {d : Nat} {H : zHt} {K : Int → zHt → Prop} {l1 : Int} {l2 : Int} {l3 : Int}
    (h : zclI w d 201 [zI l1, zI l2, zI 500] H (fun x2 H1 => (x2 = 0 → zclI w d 174 [zR 81, zI 1] H1 (fun x5 H4 => (¬ x5 = 0 → zgo w (d + 1) 251 43 [zR 81, zJ, zI l2, zI l3, zI 0, zI l1, zJ] [] H4 (zQI K)) ∧ (x5 = 0 → K (-1) H4))) ∧ (¬ x2 = 0 → zclI w d 173 [zL l3, zL 0, zL 4] H1 (fun x8 H7 => (x8 = 0 → zclI w d 174 [zR 81, zI 1] H7 (fun x11 H10 => (¬ x11 = 0 → zgo w (d + 1) 251 43 [zR 81, zJ, zI l2, zI l3, zI 0, zI l1, zJ] [] H10 (zQI K)) ∧ (x11 = 0 → K (-1) H10))) ∧ (¬ x8 = 0 → zclI w d 174 [zR 81, zI 0] H7 (fun x14 H13 => (¬ x14 = 0 → zgo w (d + 1) 251 43 [zR 81, zJ, zI l2, zI l3, zI 0, zI l1, zJ] [] H13 (zQI K)) ∧ (x14 = 0 → K (-1) H13))))))) :
    zclI w (d + 1) 251 [zR 81, zI l1, zI l2, zI l3] H K := by
  show zgo w (d + 1) 251 0 [zR 81, zI l1, zI l2, zI l3, zJ, zJ, zJ] [] H (zQI K)
  refine g_al zp251 rfl rfl rfl (by decide) ?_
  refine g_il zp251 rfl rfl rfl ?_
  refine g_il zp251 rfl rfl rfl ?_
  refine g_ic zp251 rfl rfl ?_
  refine g_callI (as := [zI l1, zI l2, zI 500]) (rest := [zR 81]) zp251 rfl rfl (Nat.succ_pos _) rfl rfl (Nat.le_of_ble_eq_true rfl) (Nat.le_of_ble_eq_true rfl) rfl rfl h (fun x2 H1 h => ?_)
  refine g_if zp251 rfl rfl zc0 (fun c3 => ?_) (fun c3 => ?_)
  · replace h := h.1 c3
    refine g_ic zp251 rfl rfl ?_
    refine g_callI (as := [zR 81, zI 1]) (rest := []) zp251 rfl rfl (Nat.succ_pos _) rfl rfl (Nat.le_of_ble_eq_true rfl) (Nat.le_of_ble_eq_true rfl) rfl rfl h (fun x5 H4 h => ?_)
    refine g_if zp251 rfl rfl zc1 (fun c6 => ?_) (fun c6 => ?_)
    · replace h := h.1 c6
      refine g_ic zp251 rfl rfl ?_
      refine g_is (ls' := [zR 81, zI l1, zI l2, zI l3, zI 0, zJ, zJ]) zp251 rfl rfl (Nat.le_of_ble_eq_true rfl) rfl ?_
      refine g_il zp251 rfl rfl rfl ?_
      refine g_is (ls' := [zR 81, zI l1, zI l2, zI l3, zI 0, zI l1, zJ]) zp251 rfl rfl (Nat.le_of_ble_eq_true rfl) rfl ?_
      exact g_weak (ls' := [zR 81, zJ, zI l2, zI l3, zI 0, zI l1, zJ]) ⟨Or.inr rfl, Or.inl rfl, Or.inr rfl, Or.inr rfl, Or.inr rfl, Or.inr rfl, Or.inr rfl, trivial⟩ h
    · replace h := h.2 c6
      refine g_ic zp251 rfl rfl ?_
      exact g_ret zp251 rfl rfl ⟨_, rfl, h⟩
  · replace h := h.2 c3
    refine g_il zp251 rfl rfl rfl ?_
    refine g_i2l zp251 rfl rfl ?_
    refine g_lc zp251 rfl rfl ?_
    refine g_lc zp251 rfl rfl ?_
    refine g_callI (as := [zL l3, zL 0, zL 4]) (rest := [zR 81]) zp251 rfl rfl (Nat.succ_pos _) rfl rfl (Nat.le_of_ble_eq_true rfl) (Nat.le_of_ble_eq_true rfl) rfl rfl h (fun x8 H7 h => ?_)
    refine g_if zp251 rfl rfl zc0 (fun c9 => ?_) (fun c9 => ?_)
    · replace h := h.1 c9
      refine g_ic zp251 rfl rfl ?_
      refine g_callI (as := [zR 81, zI 1]) (rest := []) zp251 rfl rfl (Nat.succ_pos _) rfl rfl (Nat.le_of_ble_eq_true rfl) (Nat.le_of_ble_eq_true rfl) rfl rfl h (fun x11 H10 h => ?_)
      refine g_if zp251 rfl rfl zc1 (fun c12 => ?_) (fun c12 => ?_)
      · replace h := h.1 c12
        refine g_ic zp251 rfl rfl ?_
        refine g_is (ls' := [zR 81, zI l1, zI l2, zI l3, zI 0, zJ, zJ]) zp251 rfl rfl (Nat.le_of_ble_eq_true rfl) rfl ?_
        refine g_il zp251 rfl rfl rfl ?_
        refine g_is (ls' := [zR 81, zI l1, zI l2, zI l3, zI 0, zI l1, zJ]) zp251 rfl rfl (Nat.le_of_ble_eq_true rfl) rfl ?_
        exact g_weak (ls' := [zR 81, zJ, zI l2, zI l3, zI 0, zI l1, zJ]) ⟨Or.inr rfl, Or.inl rfl, Or.inr rfl, Or.inr rfl, Or.inr rfl, Or.inr rfl, Or.inr rfl, trivial⟩ h
      · replace h := h.2 c12
        refine g_ic zp251 rfl rfl ?_
        exact g_ret zp251 rfl rfl ⟨_, rfl, h⟩
    · replace h := h.2 c9
      refine g_ic zp251 rfl rfl ?_
      refine g_goto zp251 rfl ?_
      refine g_callI (as := [zR 81, zI 0]) (rest := []) zp251 rfl rfl (Nat.succ_pos _) rfl rfl (Nat.le_of_ble_eq_true rfl) (Nat.le_of_ble_eq_true rfl) rfl rfl h (fun x14 H13 h => ?_)
      refine g_if zp251 rfl rfl zc1 (fun c15 => ?_) (fun c15 => ?_)
      · replace h := h.1 c15
        refine g_ic zp251 rfl rfl ?_
        refine g_is (ls' := [zR 81, zI l1, zI l2, zI l3, zI 0, zJ, zJ]) zp251 rfl rfl (Nat.le_of_ble_eq_true rfl) rfl ?_
        refine g_il zp251 rfl rfl rfl ?_
        refine g_is (ls' := [zR 81, zI l1, zI l2, zI l3, zI 0, zI l1, zJ]) zp251 rfl rfl (Nat.le_of_ble_eq_true rfl) rfl ?_
        exact g_weak (ls' := [zR 81, zJ, zI l2, zI l3, zI 0, zI l1, zJ]) ⟨Or.inr rfl, Or.inl rfl, Or.inr rfl, Or.inr rfl, Or.inr rfl, Or.inr rfl, Or.inr rfl, trivial⟩ h
      · replace h := h.2 c15
        refine g_ic zp251 rfl rfl ?_
        exact g_ret zp251 rfl rfl ⟨_, rfl, h⟩
theorem x251_43 {w : zWt} {d : Nat} {H : zHt} {K : Int → zHt → Prop} {l2 : Int} {l3 : Int} {l4 : Int} {l5 : Int}
    (h : (l2 < l5 → K l4 H) ∧ (l5 ≤ l2 → (3 ≤ l3 → (¬ l3 = 3 → (¬ (Int.tmod l5 2) = 0 → zgo w (d + 1) 251 43 [zR 81, zJ, zI l2, zI l3, zI (w32 (l4 + 0)), zI (w32 (l5 + 1)), zJ] [] H (zQI K)) ∧ ((Int.tmod l5 2) = 0 → zclI w d 191 [zR 81, zI l5] H (fun x7 H6 => (x7 = 0 → zgo w (d + 1) 251 43 [zR 81, zJ, zI l2, zI l3, zI (w32 (l4 + 0)), zI (w32 (l5 + 1)), zJ] [] H6 (zQI K)) ∧ (¬ x7 = 0 → zgo w (d + 1) 251 43 [zR 81, zJ, zI l2, zI l3, zI (w32 (l4 + 1)), zI (w32 (l5 + 1)), zJ] [] H6 (zQI K))))) ∧ (l3 = 3 → zclI w d 220 [zR 81, zI l5] H (fun x12 H11 => (x12 = 0 → zgo w (d + 1) 251 43 [zR 81, zJ, zI l2, zI l3, zI (w32 (l4 + 0)), zI (w32 (l5 + 1)), zJ] [] H11 (zQI K)) ∧ (¬ x12 = 0 → zgo w (d + 1) 251 43 [zR 81, zJ, zI l2, zI l3, zI (w32 (l4 + 1)), zI (w32 (l5 + 1)), zJ] [] H11 (zQI K))))) ∧ (l3 < 3 → zclI w d 186 [zR 81, zI l5, zI (H 82 9)] H (fun x15 H14 => (¬ x15 = l3 → zgo w (d + 1) 251 43 [zR 81, zJ, zI l2, zI l3, zI (w32 (l4 + 0)), zI (w32 (l5 + 1)), zJ] [] H14 (zQI K)) ∧ (x15 = l3 → zgo w (d + 1) 251 43 [zR 81, zJ, zI l2, zI l3, zI (w32 (l4 + 1)), zI (w32 (l5 + 1)), zJ] [] H14 (zQI K)))))) :
    zgo w (d + 1) 251 43 [zR 81, zJ, zI l2, zI l3, zI l4, zI l5, zJ] [] H (zQI K) := by
  refine g_il zp251 rfl rfl rfl ?_
  refine g_il zp251 rfl rfl rfl ?_
  refine g_icmp zp251 rfl rfl zc4 (fun c1 => ?_) (fun c1 => ?_)
  · replace h := h.1 c1
    refine g_il zp251 rfl rfl rfl ?_
    exact g_ret zp251 rfl rfl ⟨_, rfl, h⟩
  · replace h := h.2 c1
    refine g_il zp251 rfl rfl rfl ?_
    refine g_ic zp251 rfl rfl ?_
    refine g_icmp zp251 rfl rfl zc3 (fun c2 => ?_) (fun c2 => ?_)
    · replace h := h.1 c2
      refine g_il zp251 rfl rfl rfl ?_
      refine g_ic zp251 rfl rfl ?_
      refine g_icmp zp251 rfl rfl zc1 (fun c3 => ?_) (fun c3 => ?_)
      · replace h := h.1 c3
        refine g_il zp251 rfl rfl rfl ?_
        refine g_ic zp251 rfl rfl ?_
        refine g_ar (r := Int.tmod l5 2) zp251 rfl rfl (zr_rem (by decide)) ?_
        refine g_if zp251 rfl rfl zc1 (fun c4 => ?_) (fun c4 => ?_)
        · replace h := h.1 c4
          refine g_ic zp251 rfl rfl ?_
          refine g_is (ls' := [zR 81, zJ, zI l2, zI l3, zI l4, zI l5, zI 0]) zp251 rfl rfl (Nat.le_of_ble_eq_true rfl) rfl ?_
          refine g_il zp251 rfl rfl rfl ?_
          refine g_il zp251 rfl rfl rfl ?_
          refine g_if zp251 rfl rfl zc0 (fun c5 => ?_) (fun c5 => ?_)
          · refine g_ic zp251 rfl rfl ?_
            refine g_ar (r := w32 (l4 + 0)) zp251 rfl rfl rfl ?_
            refine g_is (ls' := [zR 81, zJ, zI l2, zI l3, zI (w32 (l4 + 0)), zI l5, zI 0]) zp251 rfl rfl (Nat.le_of_ble_eq_true rfl) rfl ?_
            refine g_inc (ls' := [zR 81, zJ, zI l2, zI l3, zI (w32 (l4 + 0)), zI (w32 (l5 + 1)), zI 0]) zp251 rfl rfl rfl rfl ?_
            refine g_goto zp251 rfl ?_
            exact g_weak (ls' := [zR 81, zJ, zI l2, zI l3, zI (w32 (l4 + 0)), zI (w32 (l5 + 1)), zJ]) ⟨Or.inr rfl, Or.inr rfl, Or.inr rfl, Or.inr rfl, Or.inr rfl, Or.inr rfl, Or.inl rfl, trivial⟩ h
          · exact absurd c5 (by decide)
        · replace h := h.2 c4
          refine g_al zp251 rfl rfl rfl (by decide) ?_
          refine g_il zp251 rfl rfl rfl ?_
          refine g_callI (as := [zR 81, zI l5]) (rest := []) zp251 rfl rfl (Nat.succ_pos _) rfl rfl (Nat.le_of_ble_eq_true rfl) (Nat.le_of_ble_eq_true rfl) rfl rfl h (fun x7 H6 h => ?_)
          refine g_if zp251 rfl rfl zc0 (fun c8 => ?_) (fun c8 => ?_)
          · replace h := h.1 c8
            refine g_ic zp251 rfl rfl ?_
            refine g_is (ls' := [zR 81, zJ, zI l2, zI l3, zI l4, zI l5, zI 0]) zp251 rfl rfl (Nat.le_of_ble_eq_true rfl) rfl ?_
            refine g_il zp251 rfl rfl rfl ?_
            refine g_il zp251 rfl rfl rfl ?_
            refine g_if zp251 rfl rfl zc0 (fun c9 => ?_) (fun c9 => ?_)
            · refine g_ic zp251 rfl rfl ?_
              refine g_ar (r := w32 (l4 + 0)) zp251 rfl rfl rfl ?_
              refine g_is (ls' := [zR 81, zJ, zI l2, zI l3, zI (w32 (l4 + 0)), zI l5, zI 0]) zp251 rfl rfl (Nat.le_of_ble_eq_true rfl) rfl ?_
              refine g_inc (ls' := [zR 81, zJ, zI l2, zI l3, zI (w32 (l4 + 0)), zI (w32 (l5 + 1)), zI 0]) zp251 rfl rfl rfl rfl ?_
              refine g_goto zp251 rfl ?_
              exact g_weak (ls' := [zR 81, zJ, zI l2, zI l3, zI (w32 (l4 + 0)), zI (w32 (l5 + 1)), zJ]) ⟨Or.inr rfl, Or.inr rfl, Or.inr rfl, Or.inr rfl, Or.inr rfl, Or.inr rfl, Or.inl rfl, trivial⟩ h
            · exact absurd c9 (by decide)
          · replace h := h.2 c8
            refine g_ic zp251 rfl rfl ?_
            refine g_goto zp251 rfl ?_
            refine g_is (ls' := [zR 81, zJ, zI l2, zI l3, zI l4, zI l5, zI 1]) zp251 rfl rfl (Nat.le_of_ble_eq_true rfl) rfl ?_
            refine g_il zp251 rfl rfl rfl ?_
            refine g_il zp251 rfl rfl rfl ?_
            refine g_if zp251 rfl rfl zc0 (fun c10 => ?_) (fun c10 => ?_)
            · exact absurd c10 (by decide)
            · refine g_ic zp251 rfl rfl ?_
              refine g_goto zp251 rfl ?_
              refine g_ar (r := w32 (l4 + 1)) zp251 rfl rfl rfl ?_
              refine g_is (ls' := [zR 81, zJ, zI l2, zI l3, zI (w32 (l4 + 1)), zI l5, zI 1]) zp251 rfl rfl (Nat.le_of_ble_eq_true rfl) rfl ?_
              refine g_inc (ls' := [zR 81, zJ, zI l2, zI l3, zI (w32 (l4 + 1)), zI (w32 (l5 + 1)), zI 1]) zp251 rfl rfl rfl rfl ?_
              refine g_goto zp251 rfl ?_
              exact g_weak (ls' := [zR 81, zJ, zI l2, zI l3, zI (w32 (l4 + 1)), zI (w32 (l5 + 1)), zJ]) ⟨Or.inr rfl, Or.inr rfl, Or.inr rfl, Or.inr rfl, Or.inr rfl, Or.inr rfl, Or.inl rfl, trivial⟩ h
      · replace h := h.2 c3
        refine g_al zp251 rfl rfl rfl (by decide) ?_
        refine g_il zp251 rfl rfl rfl ?_
        refine g_callI (as := [zR 81, zI l5]) (rest := []) zp251 rfl rfl (Nat.succ_pos _) rfl rfl (Nat.le_of_ble_eq_true rfl) (Nat.le_of_ble_eq_true rfl) rfl rfl h (fun x12 H11 h => ?_)
        refine g_goto zp251 rfl ?_
        refine g_is (ls' := [zR 81, zJ, zI l2, zI l3, zI l4, zI l5, zI x12]) zp251 rfl rfl (Nat.le_of_ble_eq_true rfl) rfl ?_
        refine g_il zp251 rfl rfl rfl ?_
        refine g_il zp251 rfl rfl rfl ?_
        refine g_if zp251 rfl rfl zc0 (fun c13 => ?_) (fun c13 => ?_)
        · replace h := h.1 c13
          refine g_ic zp251 rfl rfl ?_
          refine g_ar (r := w32 (l4 + 0)) zp251 rfl rfl rfl ?_
          refine g_is (ls' := [zR 81, zJ, zI l2, zI l3, zI (w32 (l4 + 0)), zI l5, zI x12]) zp251 rfl rfl (Nat.le_of_ble_eq_true rfl) rfl ?_
          refine g_inc (ls' := [zR 81, zJ, zI l2, zI l3, zI (w32 (l4 + 0)), zI (w32 (l5 + 1)), zI x12]) zp251 rfl rfl rfl rfl ?_
          refine g_goto zp251 rfl ?_
          exact g_weak (ls' := [zR 81, zJ, zI l2, zI l3, zI (w32 (l4 + 0)), zI (w32 (l5 + 1)), zJ]) ⟨Or.inr rfl, Or.inr rfl, Or.inr rfl, Or.inr rfl, Or.inr rfl, Or.inr rfl, Or.inl rfl, trivial⟩ h
        · replace h := h.2 c13
          refine g_ic zp251 rfl rfl ?_
          refine g_goto zp251 rfl ?_
          refine g_ar (r := w32 (l4 + 1)) zp251 rfl rfl rfl ?_
          refine g_is (ls' := [zR 81, zJ, zI l2, zI l3, zI (w32 (l4 + 1)), zI l5, zI x12]) zp251 rfl rfl (Nat.le_of_ble_eq_true rfl) rfl ?_
          refine g_inc (ls' := [zR 81, zJ, zI l2, zI l3, zI (w32 (l4 + 1)), zI (w32 (l5 + 1)), zI x12]) zp251 rfl rfl rfl rfl ?_
          refine g_goto zp251 rfl ?_
          exact g_weak (ls' := [zR 81, zJ, zI l2, zI l3, zI (w32 (l4 + 1)), zI (w32 (l5 + 1)), zJ]) ⟨Or.inr rfl, Or.inr rfl, Or.inr rfl, Or.inr rfl, Or.inr rfl, Or.inr rfl, Or.inl rfl, trivial⟩ h
    · replace h := h.2 c2
      refine g_al zp251 rfl rfl rfl (by decide) ?_
      refine g_il zp251 rfl rfl rfl ?_
      refine g_al zp251 rfl rfl rfl (by decide) ?_
      refine g_get (v := zR 82) zp251 rfl rfl rfl ⟨rfl, by decide, (by decide)⟩ rfl ?_
      refine g_ic zp251 rfl rfl ?_
      refine g_ald (v := zI (H 82 9)) zp251 rfl rfl rfl rfl (by decide) rfl ?_
      refine g_callI (as := [zR 81, zI l5, zI (H 82 9)]) (rest := []) zp251 rfl rfl (Nat.succ_pos _) rfl rfl (Nat.le_of_ble_eq_true rfl) (Nat.le_of_ble_eq_true rfl) rfl rfl h (fun x15 H14 h => ?_)
      refine g_il zp251 rfl rfl rfl ?_
      refine g_icmp zp251 rfl rfl zc1 (fun c16 => ?_) (fun c16 => ?_)
      · replace h := h.1 c16
        refine g_ic zp251 rfl rfl ?_
        refine g_goto zp251 rfl ?_
        refine g_is (ls' := [zR 81, zJ, zI l2, zI l3, zI l4, zI l5, zI 0]) zp251 rfl rfl (Nat.le_of_ble_eq_true rfl) rfl ?_
        refine g_il zp251 rfl rfl rfl ?_
        refine g_il zp251 rfl rfl rfl ?_
        refine g_if zp251 rfl rfl zc0 (fun c17 => ?_) (fun c17 => ?_)
        · refine g_ic zp251 rfl rfl ?_
          refine g_ar (r := w32 (l4 + 0)) zp251 rfl rfl rfl ?_
          refine g_is (ls' := [zR 81, zJ, zI l2, zI l3, zI (w32 (l4 + 0)), zI l5, zI 0]) zp251 rfl rfl (Nat.le_of_ble_eq_true rfl) rfl ?_
          refine g_inc (ls' := [zR 81, zJ, zI l2, zI l3, zI (w32 (l4 + 0)), zI (w32 (l5 + 1)), zI 0]) zp251 rfl rfl rfl rfl ?_
          refine g_goto zp251 rfl ?_
          exact g_weak (ls' := [zR 81, zJ, zI l2, zI l3, zI (w32 (l4 + 0)), zI (w32 (l5 + 1)), zJ]) ⟨Or.inr rfl, Or.inr rfl, Or.inr rfl, Or.inr rfl, Or.inr rfl, Or.inr rfl, Or.inl rfl, trivial⟩ h
        · exact absurd c17 (by decide)
      · replace h := h.2 c16
        refine g_ic zp251 rfl rfl ?_
        refine g_goto zp251 rfl ?_
        refine g_is (ls' := [zR 81, zJ, zI l2, zI l3, zI l4, zI l5, zI 1]) zp251 rfl rfl (Nat.le_of_ble_eq_true rfl) rfl ?_
        refine g_il zp251 rfl rfl rfl ?_
        refine g_il zp251 rfl rfl rfl ?_
        refine g_if zp251 rfl rfl zc0 (fun c18 => ?_) (fun c18 => ?_)
        · exact absurd c18 (by decide)
        · refine g_ic zp251 rfl rfl ?_
          refine g_goto zp251 rfl ?_
          refine g_ar (r := w32 (l4 + 1)) zp251 rfl rfl rfl ?_
          refine g_is (ls' := [zR 81, zJ, zI l2, zI l3, zI (w32 (l4 + 1)), zI l5, zI 1]) zp251 rfl rfl (Nat.le_of_ble_eq_true rfl) rfl ?_
          refine g_inc (ls' := [zR 81, zJ, zI l2, zI l3, zI (w32 (l4 + 1)), zI (w32 (l5 + 1)), zI 1]) zp251 rfl rfl rfl rfl ?_
          refine g_goto zp251 rfl ?_
          exact g_weak (ls' := [zR 81, zJ, zI l2, zI l3, zI (w32 (l4 + 1)), zI (w32 (l5 + 1)), zJ]) ⟨Or.inr rfl, Or.inr rfl, Or.inr rfl, Or.inr rfl, Or.inr rfl, Or.inr rfl, Or.inl rfl, trivial⟩ h
theorem zp252 : zprog.getD 252 [] = zk252 := rfl
theorem x252_0 {w : zWt} {d : Nat} {H : zHt} {K : Int → zHt → Prop} {l1 : Int} {l2 : Int} {l3 : Int} {l4 : Int}
    (h : zclI w d 201 [zI l1, zI l2, zI 500] H (fun x2 H1 => (x2 = 0 → zclI w d 174 [zR 81, zI 1] H1 (fun x5 H4 => (¬ x5 = 0 → zgo w (d + 1) 252 47 [zR 81, zJ, zI l2, zI l3, zI l4, zI 0, zI l1, zJ, zJ] [] H4 (zQI K)) ∧ (x5 = 0 → K (-1) H4))) ∧ (¬ x2 = 0 → (l3 < (-1) → zclI w d 174 [zR 81, zI 1] H1 (fun x9 H8 => (¬ x9 = 0 → zgo w (d + 1) 252 47 [zR 81, zJ, zI l2, zI l3, zI l4, zI 0, zI l1, zJ, zJ] [] H8 (zQI K)) ∧ (x9 = 0 → K (-1) H8))) ∧ ((-1) ≤ l3 → zclI w d 173 [zL l4, zL 0, zL 1] H1 (fun x12 H11 => (x12 = 0 → zclI w d 174 [zR 81, zI 1] H11 (fun x15 H14 => (¬ x15 = 0 → zgo w (d + 1) 252 47 [zR 81, zJ, zI l2, zI l3, zI l4, zI 0, zI l1, zJ, zJ] [] H14 (zQI K)) ∧ (x15 = 0 → K (-1) H14))) ∧ (¬ x12 = 0 → zclI w d 174 [zR 81, zI 0] H11 (fun x18 H17 => (¬ x18 = 0 → zgo w (d + 1) 252 47 [zR 81, zJ, zI l2, zI l3, zI l4, zI 0, zI l1, zJ, zJ] [] H17 (zQI K)) ∧ (x18 = 0 → K (-1) H17)))))))) :
    zclI w (d + 1) 252 [zR 81, zI l1, zI l2, zI l3, zI l4] H K := by
  show zgo w (d + 1) 252 0 [zR 81, zI l1, zI l2, zI l3, zI l4, zJ, zJ, zJ, zJ] [] H (zQI K)
  refine g_al zp252 rfl rfl rfl (by decide) ?_
  refine g_il zp252 rfl rfl rfl ?_
  refine g_il zp252 rfl rfl rfl ?_
  refine g_ic zp252 rfl rfl ?_
  refine g_callI (as := [zI l1, zI l2, zI 500]) (rest := [zR 81]) zp252 rfl rfl (Nat.succ_pos _) rfl rfl (Nat.le_of_ble_eq_true rfl) (Nat.le_of_ble_eq_true rfl) rfl rfl h (fun x2 H1 h => ?_)
  refine g_if zp252 rfl rfl zc0 (fun c3 => ?_) (fun c3 => ?_)
  · replace h := h.1 c3
    refine g_ic zp252 rfl rfl ?_
    refine g_callI (as := [zR 81, zI 1]) (rest := []) zp252 rfl rfl (Nat.succ_pos _) rfl rfl (Nat.le_of_ble_eq_true rfl) (Nat.le_of_ble_eq_true rfl) rfl rfl h (fun x5 H4 h => ?_)
    refine g_if zp252 rfl rfl zc1 (fun c6 => ?_) (fun c6 => ?_)
    · replace h := h.1 c6
      refine g_ic zp252 rfl rfl ?_
      refine g_is (ls' := [zR 81, zI l1, zI l2, zI l3, zI l4, zI 0, zJ, zJ, zJ]) zp252 rfl rfl (Nat.le_of_ble_eq_true rfl) rfl ?_
      refine g_il zp252 rfl rfl rfl ?_
      refine g_is (ls' := [zR 81, zI l1, zI l2, zI l3, zI l4, zI 0, zI l1, zJ, zJ]) zp252 rfl rfl (Nat.le_of_ble_eq_true rfl) rfl ?_
      exact g_weak (ls' := [zR 81, zJ, zI l2, zI l3, zI l4, zI 0, zI l1, zJ, zJ]) ⟨Or.inr rfl, Or.inl rfl, Or.inr rfl, Or.inr rfl, Or.inr rfl, Or.inr rfl, Or.inr rfl, Or.inr rfl, Or.inr rfl, trivial⟩ h
    · replace h := h.2 c6
      refine g_ic zp252 rfl rfl ?_
      exact g_ret zp252 rfl rfl ⟨_, rfl, h⟩
  · replace h := h.2 c3
    refine g_il zp252 rfl rfl rfl ?_
    refine g_ic zp252 rfl rfl ?_
    refine g_icmp zp252 rfl rfl zc2 (fun c7 => ?_) (fun c7 => ?_)
    · replace h := h.1 c7
      refine g_ic zp252 rfl rfl ?_
      refine g_callI (as := [zR 81, zI 1]) (rest := []) zp252 rfl rfl (Nat.succ_pos _) rfl rfl (Nat.le_of_ble_eq_true rfl) (Nat.le_of_ble_eq_true rfl) rfl rfl h (fun x9 H8 h => ?_)
      refine g_if zp252 rfl rfl zc1 (fun c10 => ?_) (fun c10 => ?_)
      · replace h := h.1 c10
        refine g_ic zp252 rfl rfl ?_
        refine g_is (ls' := [zR 81, zI l1, zI l2, zI l3, zI l4, zI 0, zJ, zJ, zJ]) zp252 rfl rfl (Nat.le_of_ble_eq_true rfl) rfl ?_
        refine g_il zp252 rfl rfl rfl ?_
        refine g_is (ls' := [zR 81, zI l1, zI l2, zI l3, zI l4, zI 0, zI l1, zJ, zJ]) zp252 rfl rfl (Nat.le_of_ble_eq_true rfl) rfl ?_
        exact g_weak (ls' := [zR 81, zJ, zI l2, zI l3, zI l4, zI 0, zI l1, zJ, zJ]) ⟨Or.inr rfl, Or.inl rfl, Or.inr rfl, Or.inr rfl, Or.inr rfl, Or.inr rfl, Or.inr rfl, Or.inr rfl, Or.inr rfl, trivial⟩ h
      · replace h := h.2 c10
        refine g_ic zp252 rfl rfl ?_
        exact g_ret zp252 rfl rfl ⟨_, rfl, h⟩
    · replace h := h.2 c7
      refine g_il zp252 rfl rfl rfl ?_
      refine g_i2l zp252 rfl rfl ?_
      refine g_lc zp252 rfl rfl ?_
      refine g_lc zp252 rfl rfl ?_
      refine g_callI (as := [zL l4, zL 0, zL 1]) (rest := [zR 81]) zp252 rfl rfl (Nat.succ_pos _) rfl rfl (Nat.le_of_ble_eq_true rfl) (Nat.le_of_ble_eq_true rfl) rfl rfl h (fun x12 H11 h => ?_)
      refine g_if zp252 rfl rfl zc0 (fun c13 => ?_) (fun c13 => ?_)
      · replace h := h.1 c13
        refine g_ic zp252 rfl rfl ?_
        refine g_callI (as := [zR 81, zI 1]) (rest := []) zp252 rfl rfl (Nat.succ_pos _) rfl rfl (Nat.le_of_ble_eq_true rfl) (Nat.le_of_ble_eq_true rfl) rfl rfl h (fun x15 H14 h => ?_)
        refine g_if zp252 rfl rfl zc1 (fun c16 => ?_) (fun c16 => ?_)
        · replace h := h.1 c16
          refine g_ic zp252 rfl rfl ?_
          refine g_is (ls' := [zR 81, zI l1, zI l2, zI l3, zI l4, zI 0, zJ, zJ, zJ]) zp252 rfl rfl (Nat.le_of_ble_eq_true rfl) rfl ?_
          refine g_il zp252 rfl rfl rfl ?_
          refine g_is (ls' := [zR 81, zI l1, zI l2, zI l3, zI l4, zI 0, zI l1, zJ, zJ]) zp252 rfl rfl (Nat.le_of_ble_eq_true rfl) rfl ?_
          exact g_weak (ls' := [zR 81, zJ, zI l2, zI l3, zI l4, zI 0, zI l1, zJ, zJ]) ⟨Or.inr rfl, Or.inl rfl, Or.inr rfl, Or.inr rfl, Or.inr rfl, Or.inr rfl, Or.inr rfl, Or.inr rfl, Or.inr rfl, trivial⟩ h
        · replace h := h.2 c16
          refine g_ic zp252 rfl rfl ?_
          exact g_ret zp252 rfl rfl ⟨_, rfl, h⟩
      · replace h := h.2 c13
        refine g_ic zp252 rfl rfl ?_
        refine g_goto zp252 rfl ?_
        refine g_callI (as := [zR 81, zI 0]) (rest := []) zp252 rfl rfl (Nat.succ_pos _) rfl rfl (Nat.le_of_ble_eq_true rfl) (Nat.le_of_ble_eq_true rfl) rfl rfl h (fun x18 H17 h => ?_)
        refine g_if zp252 rfl rfl zc1 (fun c19 => ?_) (fun c19 => ?_)
        · replace h := h.1 c19
          refine g_ic zp252 rfl rfl ?_
          refine g_is (ls' := [zR 81, zI l1, zI l2, zI l3, zI l4, zI 0, zJ, zJ, zJ]) zp252 rfl rfl (Nat.le_of_ble_eq_true rfl) rfl ?_
          refine g_il zp252 rfl rfl rfl ?_
          refine g_is (ls' := [zR 81, zI l1, zI l2, zI l3, zI l4, zI 0, zI l1, zJ, zJ]) zp252 rfl rfl (Nat.le_of_ble_eq_true rfl) rfl ?_
          exact g_weak (ls' := [zR 81, zJ, zI l2, zI l3, zI l4, zI 0, zI l1, zJ, zJ]) ⟨Or.inr rfl, Or.inl rfl, Or.inr rfl, Or.inr rfl, Or.inr rfl, Or.inr rfl, Or.inr rfl, Or.inr rfl, Or.inr rfl, trivial⟩ h
        · replace h := h.2 c19
          refine g_ic zp252 rfl rfl ?_
          exact g_ret zp252 rfl rfl ⟨_, rfl, h⟩
theorem x252_47 {w : zWt} {d : Nat} {H : zHt} {K : Int → zHt → Prop} {l2 : Int} {l3 : Int} {l4 : Int} {l5 : Int} {l6 : Int}
    (h : (l2 < l6 → (¬ l3 = (-1) → zclI w d 178 [zR 81, zI 5] H (fun x4 H3 => K x4 H3)) ∧ (l3 = (-1) → K l5 H)) ∧ (l6 ≤ l2 → zclL w d 180 [zR 81, zI l6] H (fun x6 H5 => (x6 ≤ l6 → zgo w (d + 1) 252 47 [zR 81, zJ, zI l2, zI l3, zI l4, zI l5, zI (w32 (l6 + 1)), zJ, zJ] [] H5 (zQI K)) ∧ (l6 < x6 → (999999999 < x6 → zgo w (d + 1) 252 47 [zR 81, zJ, zI l2, zI l3, zI l4, zI l5, zI (w32 (l6 + 1)), zJ, zJ] [] H5 (zQI K)) ∧ (x6 ≤ 999999999 → zclL w d 180 [zR 81, zI (w32 x6)] H5 (fun x10 H9 => (x10 = l6 → (¬ l5 = l3 → zgo w (d + 1) 252 47 [zR 81, zJ, zI l2, zI l3, zI l4, zI (w32 (l5 + 1)), zI (w32 (l6 + 1)), zJ, zJ] [] H9 (zQI K)) ∧ (l5 = l3 → (¬ l4 = 0 → K (w32 x6) H9) ∧ (l4 = 0 → K l6 H9))) ∧ (¬ x10 = l6 → zgo w (d + 1) 252 47 [zR 81, zJ, zI l2, zI l3, zI l4, zI l5, zI (w32 (l6 + 1)), zJ, zJ] [] H9 (zQI K)))))))) :
    zgo w (d + 1) 252 47 [zR 81, zJ, zI l2, zI l3, zI l4, zI l5, zI l6, zJ, zJ] [] H (zQI K) := by
  refine g_il zp252 rfl rfl rfl ?_
  refine g_il zp252 rfl rfl rfl ?_
  refine g_icmp zp252 rfl rfl zc4 (fun c1 => ?_) (fun c1 => ?_)
  · replace h := h.1 c1
    refine g_il zp252 rfl rfl rfl ?_
    refine g_ic zp252 rfl rfl ?_
    refine g_icmp zp252 rfl rfl zc1 (fun c2 => ?_) (fun c2 => ?_)
    · replace h := h.1 c2
      refine g_al zp252 rfl rfl rfl (by decide) ?_
      refine g_ic zp252 rfl rfl ?_
      refine g_callI (as := [zR 81, zI 5]) (rest := []) zp252 rfl rfl (Nat.succ_pos _) rfl rfl (Nat.le_of_ble_eq_true rfl) (Nat.le_of_ble_eq_true rfl) rfl rfl h (fun x4 H3 h => ?_)
      exact g_ret zp252 rfl rfl ⟨_, rfl, h⟩
    · replace h := h.2 c2
      refine g_il zp252 rfl rfl rfl ?_
      refine g_goto zp252 rfl ?_
      exact g_ret zp252 rfl rfl ⟨_, rfl, h⟩
  · replace h := h.2 c1
    refine g_al zp252 rfl rfl rfl (by decide) ?_
    refine g_il zp252 rfl rfl rfl ?_
    refine g_callL (as := [zR 81, zI l6]) (rest := []) zp252 rfl rfl (Nat.succ_pos _) rfl rfl (Nat.le_of_ble_eq_true rfl) (Nat.le_of_ble_eq_true rfl) rfl rfl h (fun x6 H5 h => ?_)
    refine g_ls (ls' := [zR 81, zJ, zI l2, zI l3, zI l4, zI l5, zI l6, zL x6, zJ]) zp252 rfl rfl (Nat.le_of_ble_eq_true rfl) rfl ?_
    refine g_ll zp252 rfl rfl rfl ?_
    refine g_il zp252 rfl rfl rfl ?_
    refine g_i2l zp252 rfl rfl ?_
    refine g_lcmp zp252 rfl rfl rfl rfl zc5 (fun c7 => ?_) (fun c7 => ?_)
    · replace h := h.1 c7
      refine g_inc (ls' := [zR 81, zJ, zI l2, zI l3, zI l4, zI l5, zI (w32 (l6 + 1)), zL x6, zJ]) zp252 rfl rfl rfl rfl ?_
      refine g_goto zp252 rfl ?_
      exact g_weak (ls' := [zR 81, zJ, zI l2, zI l3, zI l4, zI l5, zI (w32 (l6 + 1)), zJ, zJ]) ⟨Or.inr rfl, Or.inr rfl, Or.inr rfl, Or.inr rfl, Or.inr rfl, Or.inr rfl, Or.inr rfl, Or.inl rfl, Or.inr rfl, trivial⟩ h
    · replace h := h.2 c7
      refine g_ll zp252 rfl rfl rfl ?_
      refine g_lc zp252 rfl rfl ?_
      refine g_lcmp zp252 rfl rfl rfl rfl zc4 (fun c8 => ?_) (fun c8 => ?_)
      · replace h := h.1 c8
        refine g_inc (ls' := [zR 81, zJ, zI l2, zI l3, zI l4, zI l5, zI (w32 (l6 + 1)), zL x6, zJ]) zp252 rfl rfl rfl rfl ?_
        refine g_goto zp252 rfl ?_
        exact g_weak (ls' := [zR 81, zJ, zI l2, zI l3, zI l4, zI l5, zI (w32 (l6 + 1)), zJ, zJ]) ⟨Or.inr rfl, Or.inr rfl, Or.inr rfl, Or.inr rfl, Or.inr rfl, Or.inr rfl, Or.inr rfl, Or.inl rfl, Or.inr rfl, trivial⟩ h
      · replace h := h.2 c8
        refine g_al zp252 rfl rfl rfl (by decide) ?_
        refine g_ll zp252 rfl rfl rfl ?_
        refine g_l2i zp252 rfl rfl ?_
        refine g_callL (as := [zR 81, zI (w32 x6)]) (rest := []) zp252 rfl rfl (Nat.succ_pos _) rfl rfl (Nat.le_of_ble_eq_true rfl) (Nat.le_of_ble_eq_true rfl) rfl rfl h (fun x10 H9 h => ?_)
        refine g_il zp252 rfl rfl rfl ?_
        refine g_i2l zp252 rfl rfl ?_
        refine g_lcmp zp252 rfl rfl rfl rfl zc0 (fun c11 => ?_) (fun c11 => ?_)
        · replace h := h.1 c11
          refine g_il zp252 rfl rfl rfl ?_
          refine g_il zp252 rfl rfl rfl ?_
          refine g_icmp zp252 rfl rfl zc1 (fun c12 => ?_) (fun c12 => ?_)
          · replace h := h.1 c12
            refine g_inc (ls' := [zR 81, zJ, zI l2, zI l3, zI l4, zI (w32 (l5 + 1)), zI l6, zL x6, zJ]) zp252 rfl rfl rfl rfl ?_
            refine g_inc (ls' := [zR 81, zJ, zI l2, zI l3, zI l4, zI (w32 (l5 + 1)), zI (w32 (l6 + 1)), zL x6, zJ]) zp252 rfl rfl rfl rfl ?_
            refine g_goto zp252 rfl ?_
            exact g_weak (ls' := [zR 81, zJ, zI l2, zI l3, zI l4, zI (w32 (l5 + 1)), zI (w32 (l6 + 1)), zJ, zJ]) ⟨Or.inr rfl, Or.inr rfl, Or.inr rfl, Or.inr rfl, Or.inr rfl, Or.inr rfl, Or.inr rfl, Or.inl rfl, Or.inr rfl, trivial⟩ h
          · replace h := h.2 c12
            refine g_il zp252 rfl rfl rfl ?_
            refine g_if zp252 rfl rfl zc1 (fun c13 => ?_) (fun c13 => ?_)
            · replace h := h.1 c13
              refine g_ll zp252 rfl rfl rfl ?_
              refine g_l2i zp252 rfl rfl ?_
              exact g_ret zp252 rfl rfl ⟨_, rfl, h⟩
            · replace h := h.2 c13
              refine g_il zp252 rfl rfl rfl ?_
              refine g_goto zp252 rfl ?_
              exact g_ret zp252 rfl rfl ⟨_, rfl, h⟩
        · replace h := h.2 c11
          refine g_goto zp252 rfl ?_
          refine g_inc (ls' := [zR 81, zJ, zI l2, zI l3, zI l4, zI l5, zI (w32 (l6 + 1)), zL x6, zJ]) zp252 rfl rfl rfl rfl ?_
          refine g_goto zp252 rfl ?_
          exact g_weak (ls' := [zR 81, zJ, zI l2, zI l3, zI l4, zI l5, zI (w32 (l6 + 1)), zJ, zJ]) ⟨Or.inr rfl, Or.inr rfl, Or.inr rfl, Or.inr rfl, Or.inr rfl, Or.inr rfl, Or.inr rfl, Or.inl rfl, Or.inr rfl, trivial⟩ h
theorem zp253 : zprog.getD 253 [] = zk253 := rfl
theorem x253_0 {w : zWt} {d : Nat} {H : zHt} {K : Int → zHt → Prop} {l1 : Int} {l2 : Int} {l3 : Int} {l4 : Int}
    (h : zclI w d 201 [zI l1, zI l2, zI 50] H (fun x2 H1 => (x2 = 0 → zclI w d 174 [zR 81, zI 1] H1 (fun x5 H4 => (¬ x5 = 0 → zgo w (d + 1) 253 48 [zR 81, zJ, zI l2, zI l3, zI l4, zI 0, zI l1] [] H4 (zQI K)) ∧ (x5 = 0 → K (-1) H4))) ∧ (¬ x2 = 0 → zclI w d 173 [zL l3, zL 1, zL 30] H1 (fun x8 H7 => (x8 = 0 → zclI w d 174 [zR 81, zI 1] H7 (fun x11 H10 => (¬ x11 = 0 → zgo w (d + 1) 253 48 [zR 81, zJ, zI l2, zI l3, zI l4, zI 0, zI l1] [] H10 (zQI K)) ∧ (x11 = 0 → K (-1) H10))) ∧ (¬ x8 = 0 → (l4 < (-1) → zclI w d 174 [zR 81, zI 1] H7 (fun x15 H14 => (¬ x15 = 0 → zgo w (d + 1) 253 48 [zR 81, zJ, zI l2, zI l3, zI l4, zI 0, zI l1] [] H14 (zQI K)) ∧ (x15 = 0 → K (-1) H14))) ∧ ((-1) ≤ l4 → zclI w d 174 [zR 81, zI 0] H7 (fun x18 H17 => (¬ x18 = 0 → zgo w (d + 1) 253 48 [zR 81, zJ, zI l2, zI l3, zI l4, zI 0, zI l1] [] H17 (zQI K)) ∧ (x18 = 0 → K (-1) H17)))))))) :
    zclI w (d + 1) 253 [zR 81, zI l1, zI l2, zI l3, zI l4] H K := by
  show zgo w (d + 1) 253 0 [zR 81, zI l1, zI l2, zI l3, zI l4, zJ, zJ] [] H (zQI K)
  refine g_al zp253 rfl rfl rfl (by decide) ?_
  refine g_il zp253 rfl rfl rfl ?_
  refine g_il zp253 rfl rfl rfl ?_
  refine g_ic zp253 rfl rfl ?_
  refine g_callI (as := [zI l1, zI l2, zI 50]) (rest := [zR 81]) zp253 rfl rfl (Nat.succ_pos _) rfl rfl (Nat.le_of_ble_eq_true rfl) (Nat.le_of_ble_eq_true rfl) rfl rfl h (fun x2 H1 h => ?_)
  refine g_if zp253 rfl rfl zc0 (fun c3 => ?_) (fun c3 => ?_)
  · replace h := h.1 c3
    refine g_ic zp253 rfl rfl ?_
    refine g_callI (as := [zR 81, zI 1]) (rest := []) zp253 rfl rfl (Nat.succ_pos _) rfl rfl (Nat.le_of_ble_eq_true rfl) (Nat.le_of_ble_eq_true rfl) rfl rfl h (fun x5 H4 h => ?_)
    refine g_if zp253 rfl rfl zc1 (fun c6 => ?_) (fun c6 => ?_)
    · replace h := h.1 c6
      refine g_ic zp253 rfl rfl ?_
      refine g_is (ls' := [zR 81, zI l1, zI l2, zI l3, zI l4, zI 0, zJ]) zp253 rfl rfl (Nat.le_of_ble_eq_true rfl) rfl ?_
      refine g_il zp253 rfl rfl rfl ?_
      refine g_is (ls' := [zR 81, zI l1, zI l2, zI l3, zI l4, zI 0, zI l1]) zp253 rfl rfl (Nat.le_of_ble_eq_true rfl) rfl ?_
      exact g_weak (ls' := [zR 81, zJ, zI l2, zI l3, zI l4, zI 0, zI l1]) ⟨Or.inr rfl, Or.inl rfl, Or.inr rfl, Or.inr rfl, Or.inr rfl, Or.inr rfl, Or.inr rfl, trivial⟩ h
    · replace h := h.2 c6
      refine g_ic zp253 rfl rfl ?_
      exact g_ret zp253 rfl rfl ⟨_, rfl, h⟩
  · replace h := h.2 c3
    refine g_il zp253 rfl rfl rfl ?_
    refine g_i2l zp253 rfl rfl ?_
    refine g_lc zp253 rfl rfl ?_
    refine g_lc zp253 rfl rfl ?_
    refine g_callI (as := [zL l3, zL 1, zL 30]) (rest := [zR 81]) zp253 rfl rfl (Nat.succ_pos _) rfl rfl (Nat.le_of_ble_eq_true rfl) (Nat.le_of_ble_eq_true rfl) rfl rfl h (fun x8 H7 h => ?_)
    refine g_if zp253 rfl rfl zc0 (fun c9 => ?_) (fun c9 => ?_)
    · replace h := h.1 c9
      refine g_ic zp253 rfl rfl ?_
      refine g_callI (as := [zR 81, zI 1]) (rest := []) zp253 rfl rfl (Nat.succ_pos _) rfl rfl (Nat.le_of_ble_eq_true rfl) (Nat.le_of_ble_eq_true rfl) rfl rfl h (fun x11 H10 h => ?_)
      refine g_if zp253 rfl rfl zc1 (fun c12 => ?_) (fun c12 => ?_)
      · replace h := h.1 c12
        refine g_ic zp253 rfl rfl ?_
        refine g_is (ls' := [zR 81, zI l1, zI l2, zI l3, zI l4, zI 0, zJ]) zp253 rfl rfl (Nat.le_of_ble_eq_true rfl) rfl ?_
        refine g_il zp253 rfl rfl rfl ?_
        refine g_is (ls' := [zR 81, zI l1, zI l2, zI l3, zI l4, zI 0, zI l1]) zp253 rfl rfl (Nat.le_of_ble_eq_true rfl) rfl ?_
        exact g_weak (ls' := [zR 81, zJ, zI l2, zI l3, zI l4, zI 0, zI l1]) ⟨Or.inr rfl, Or.inl rfl, Or.inr rfl, Or.inr rfl, Or.inr rfl, Or.inr rfl, Or.inr rfl, trivial⟩ h
      · replace h := h.2 c12
        refine g_ic zp253 rfl rfl ?_
        exact g_ret zp253 rfl rfl ⟨_, rfl, h⟩
    · replace h := h.2 c9
      refine g_il zp253 rfl rfl rfl ?_
      refine g_ic zp253 rfl rfl ?_
      refine g_icmp zp253 rfl rfl zc2 (fun c13 => ?_) (fun c13 => ?_)
      · replace h := h.1 c13
        refine g_ic zp253 rfl rfl ?_
        refine g_callI (as := [zR 81, zI 1]) (rest := []) zp253 rfl rfl (Nat.succ_pos _) rfl rfl (Nat.le_of_ble_eq_true rfl) (Nat.le_of_ble_eq_true rfl) rfl rfl h (fun x15 H14 h => ?_)
        refine g_if zp253 rfl rfl zc1 (fun c16 => ?_) (fun c16 => ?_)
        · replace h := h.1 c16
          refine g_ic zp253 rfl rfl ?_
          refine g_is (ls' := [zR 81, zI l1, zI l2, zI l3, zI l4, zI 0, zJ]) zp253 rfl rfl (Nat.le_of_ble_eq_true rfl) rfl ?_
          refine g_il zp253 rfl rfl rfl ?_
          refine g_is (ls' := [zR 81, zI l1, zI l2, zI l3, zI l4, zI 0, zI l1]) zp253 rfl rfl (Nat.le_of_ble_eq_true rfl) rfl ?_
          exact g_weak (ls' := [zR 81, zJ, zI l2, zI l3, zI l4, zI 0, zI l1]) ⟨Or.inr rfl, Or.inl rfl, Or.inr rfl, Or.inr rfl, Or.inr rfl, Or.inr rfl, Or.inr rfl, trivial⟩ h
        · replace h := h.2 c16
          refine g_ic zp253 rfl rfl ?_
          exact g_ret zp253 rfl rfl ⟨_, rfl, h⟩
      · replace h := h.2 c13
        refine g_ic zp253 rfl rfl ?_
        refine g_goto zp253 rfl ?_
        refine g_callI (as := [zR 81, zI 0]) (rest := []) zp253 rfl rfl (Nat.succ_pos _) rfl rfl (Nat.le_of_ble_eq_true rfl) (Nat.le_of_ble_eq_true rfl) rfl rfl h (fun x18 H17 h => ?_)
        refine g_if zp253 rfl rfl zc1 (fun c19 => ?_) (fun c19 => ?_)
        · replace h := h.1 c19
          refine g_ic zp253 rfl rfl ?_
          refine g_is (ls' := [zR 81, zI l1, zI l2, zI l3, zI l4, zI 0, zJ]) zp253 rfl rfl (Nat.le_of_ble_eq_true rfl) rfl ?_
          refine g_il zp253 rfl rfl rfl ?_
          refine g_is (ls' := [zR 81, zI l1, zI l2, zI l3, zI l4, zI 0, zI l1]) zp253 rfl rfl (Nat.le_of_ble_eq_true rfl) rfl ?_
          exact g_weak (ls' := [zR 81, zJ, zI l2, zI l3, zI l4, zI 0, zI l1]) ⟨Or.inr rfl, Or.inl rfl, Or.inr rfl, Or.inr rfl, Or.inr rfl, Or.inr rfl, Or.inr rfl, trivial⟩ h
        · replace h := h.2 c19
          refine g_ic zp253 rfl rfl ?_
          exact g_ret zp253 rfl rfl ⟨_, rfl, h⟩
theorem x253_48 {w : zWt} {d : Nat} {H : zHt} {K : Int → zHt → Prop} {l2 : Int} {l3 : Int} {l4 : Int} {l5 : Int} {l6 : Int}
    (h : (l2 < l6 → (¬ l4 = (-1) → zclI w d 178 [zR 81, zI 5] H (fun x4 H3 => K x4 H3)) ∧ (l4 = (-1) → K l5 H)) ∧ (l6 ≤ l2 → zclI w d 254 [zR 81, zI l6, zI l3] H (fun x6 H5 => (¬ x6 = 0 → (¬ l5 = l4 → zgo w (d + 1) 253 48 [zR 81, zJ, zI l2, zI l3, zI l4, zI (w32 (l5 + 1)), zI (w32 (l6 + 1))] [] H5 (zQI K)) ∧ (l5 = l4 → K l6 H5)) ∧ (x6 = 0 → zgo w (d + 1) 253 48 [zR 81, zJ, zI l2, zI l3, zI l4, zI l5, zI (w32 (l6 + 1))] [] H5 (zQI K))))) :
    zgo w (d + 1) 253 48 [zR 81, zJ, zI l2, zI l3, zI l4, zI l5, zI l6] [] H (zQI K) := by
  refine g_il zp253 rfl rfl rfl ?_
  refine g_il zp253 rfl rfl rfl ?_
  refine g_icmp zp253 rfl rfl zc4 (fun c1 => ?_) (fun c1 => ?_)
  · replace h := h.1 c1
    refine g_il zp253 rfl rfl rfl ?_
    refine g_ic zp253 rfl rfl ?_
    refine g_icmp zp253 rfl rfl zc1 (fun c2 => ?_) (fun c2 => ?_)
    · replace h := h.1 c2
      refine g_al zp253 rfl rfl rfl (by decide) ?_
      refine g_ic zp253 rfl rfl ?_
      refine g_callI (as := [zR 81, zI 5]) (rest := []) zp253 rfl rfl (Nat.succ_pos _) rfl rfl (Nat.le_of_ble_eq_true rfl) (Nat.le_of_ble_eq_true rfl) rfl rfl h (fun x4 H3 h => ?_)
      exact g_ret zp253 rfl rfl ⟨_, rfl, h⟩
    · replace h := h.2 c2
      refine g_il zp253 rfl rfl rfl ?_
      refine g_goto zp253 rfl ?_
      exact g_ret zp253 rfl rfl ⟨_, rfl, h⟩
  · replace h := h.2 c1
    refine g_al zp253 rfl rfl rfl (by decide) ?_
    refine g_il zp253 rfl rfl rfl ?_
    refine g_il zp253 rfl rfl rfl ?_
    refine g_callI (as := [zR 81, zI l6, zI l3]) (rest := []) zp253 rfl rfl (Nat.succ_pos _) rfl rfl (Nat.le_of_ble_eq_true rfl) (Nat.le_of_ble_eq_true rfl) rfl rfl h (fun x6 H5 h => ?_)
    refine g_if zp253 rfl rfl zc1 (fun c7 => ?_) (fun c7 => ?_)
    · replace h := h.1 c7
      refine g_il zp253 rfl rfl rfl ?_
      refine g_il zp253 rfl rfl rfl ?_
      refine g_icmp zp253 rfl rfl zc1 (fun c8 => ?_) (fun c8 => ?_)
      · replace h := h.1 c8
        refine g_inc (ls' := [zR 81, zJ, zI l2, zI l3, zI l4, zI (w32 (l5 + 1)), zI l6]) zp253 rfl rfl rfl rfl ?_
        refine g_inc (ls' := [zR 81, zJ, zI l2, zI l3, zI l4, zI (w32 (l5 + 1)), zI (w32 (l6 + 1))]) zp253 rfl rfl rfl rfl ?_
        refine g_goto zp253 rfl ?_
        exact g_weak (ls' := [zR 81, zJ, zI l2, zI l3, zI l4, zI (w32 (l5 + 1)), zI (w32 (l6 + 1))]) ⟨Or.inr rfl, Or.inr rfl, Or.inr rfl, Or.inr rfl, Or.inr rfl, Or.inr rfl, Or.inr rfl, trivial⟩ h
      · replace h := h.2 c8
        refine g_il zp253 rfl rfl rfl ?_
        exact g_ret zp253 rfl rfl ⟨_, rfl, h⟩
    · replace h := h.2 c7
      refine g_goto zp253 rfl ?_
      refine g_inc (ls' := [zR 81, zJ, zI l2, zI l3, zI l4, zI l5, zI (w32 (l6 + 1))]) zp253 rfl rfl rfl rfl ?_
      refine g_goto zp253 rfl ?_
      exact g_weak (ls' := [zR 81, zJ, zI l2, zI l3, zI l4, zI l5, zI (w32 (l6 + 1))]) ⟨Or.inr rfl, Or.inr rfl, Or.inr rfl, Or.inr rfl, Or.inr rfl, Or.inr rfl, Or.inr rfl, trivial⟩ h
theorem zp254 : zprog.getD 254 [] = zk254 := rfl
theorem x254_0 {w : zWt} {d : Nat} {H : zHt} {K : Int → zHt → Prop} {l1 : Int} {l2 : Int}
    (h : zgo w (d + 1) 254 6 [zR 81, zI l1, zI l2, zL l1, zJ, zI 1] [] H (zQI K)) :
    zclI w (d + 1) 254 [zR 81, zI l1, zI l2] H K := by
  show zgo w (d + 1) 254 0 [zR 81, zI l1, zI l2, zJ, zJ, zJ] [] H (zQI K)
  refine g_il zp254 rfl rfl rfl ?_
  refine g_i2l zp254 rfl rfl ?_
  refine g_ls (ls' := [zR 81, zI l1, zI l2, zL l1, zJ, zJ]) zp254 rfl rfl (Nat.le_of_ble_eq_true rfl) rfl ?_
  refine g_ic zp254 rfl rfl ?_
  refine g_is (ls' := [zR 81, zI l1, zI l2, zL l1, zJ, zI 1]) zp254 rfl rfl (Nat.le_of_ble_eq_true rfl) rfl ?_
  exact g_weak (ls' := [zR 81, zI l1, zI l2, zL l1, zJ, zI 1]) ⟨Or.inr rfl, Or.inr rfl, Or.inr rfl, Or.inr rfl, Or.inr rfl, Or.inr rfl, trivial⟩ h
theorem x254_6 {w : zWt} {d : Nat} {H : zHt} {K : Int → zHt → Prop} {l1 : Int} {l2 : Int} {l3 : Int} {l5 : Int}
    (h : (l2 < l5 → (¬ l3 = l1 → K 0 H) ∧ (l3 = l1 → K 1 H)) ∧ (l5 ≤ l2 → zclL w d 180 [zR 81, zI (w32 l3)] H (fun x4 H3 => (l2 ≤ l5 → (x4 < 1 → K 0 H3) ∧ (1 ≤ x4 → (x4 ≤ 999999999 → zgo w (d + 1) 254 6 [zR 81, zI l1, zI l2, zL x4, zJ, zI (w32 (l5 + 1))] [] H3 (zQI K)) ∧ (999999999 < x4 → K 0 H3))) ∧ (l5 < l2 → (x4 ≤ l1 → K 0 H3) ∧ (l1 < x4 → (x4 < 1 → K 0 H3) ∧ (1 ≤ x4 → (x4 ≤ 999999999 → zgo w (d + 1) 254 6 [zR 81, zI l1, zI l2, zL x4, zJ, zI (w32 (l5 + 1))] [] H3 (zQI K)) ∧ (999999999 < x4 → K 0 H3))))))) :
    zgo w (d + 1) 254 6 [zR 81, zI l1, zI l2, zL l3, zJ, zI l5] [] H (zQI K) := by
  refine g_il zp254 rfl rfl rfl ?_
  refine g_il zp254 rfl rfl rfl ?_
  refine g_icmp zp254 rfl rfl zc4 (fun c1 => ?_) (fun c1 => ?_)
  · replace h := h.1 c1
    refine g_ll zp254 rfl rfl rfl ?_
    refine g_il zp254 rfl rfl rfl ?_
    refine g_i2l zp254 rfl rfl ?_
    refine g_lcmp zp254 rfl rfl rfl rfl zc1 (fun c2 => ?_) (fun c2 => ?_)
    · replace h := h.1 c2
      refine g_ic zp254 rfl rfl ?_
      exact g_ret zp254 rfl (zret_b (by decide)) ⟨_, rfl, h⟩
    · replace h := h.2 c2
      refine g_ic zp254 rfl rfl ?_
      refine g_goto zp254 rfl ?_
      exact g_ret zp254 rfl (zret_b (by decide)) ⟨_, rfl, h⟩
  · replace h := h.2 c1
    refine g_al zp254 rfl rfl rfl (by decide) ?_
    refine g_ll zp254 rfl rfl rfl ?_
    refine g_l2i zp254 rfl rfl ?_
    refine g_callL (as := [zR 81, zI (w32 l3)]) (rest := []) zp254 rfl rfl (Nat.succ_pos _) rfl rfl (Nat.le_of_ble_eq_true rfl) (Nat.le_of_ble_eq_true rfl) rfl rfl h (fun x4 H3 h => ?_)
    refine g_ls (ls' := [zR 81, zI l1, zI l2, zL x4, zJ, zI l5]) zp254 rfl rfl (Nat.le_of_ble_eq_true rfl) rfl ?_
    refine g_il zp254 rfl rfl rfl ?_
    refine g_il zp254 rfl rfl rfl ?_
    refine g_icmp zp254 rfl rfl zc3 (fun c5 => ?_) (fun c5 => ?_)
    · replace h := h.1 c5
      refine g_ll zp254 rfl rfl rfl ?_
      refine g_lc zp254 rfl rfl ?_
      refine g_lcmp zp254 rfl rfl rfl rfl zc2 (fun c6 => ?_) (fun c6 => ?_)
      · replace h := h.1 c6
        refine g_ic zp254 rfl rfl ?_
        exact g_ret zp254 rfl (zret_b (by decide)) ⟨_, rfl, h⟩
      · replace h := h.2 c6
        refine g_ll zp254 rfl rfl rfl ?_
        refine g_lc zp254 rfl rfl ?_
        refine g_lcmp zp254 rfl rfl rfl rfl zc5 (fun c7 => ?_) (fun c7 => ?_)
        · replace h := h.1 c7
          refine g_inc (ls' := [zR 81, zI l1, zI l2, zL x4, zJ, zI (w32 (l5 + 1))]) zp254 rfl rfl rfl rfl ?_
          refine g_goto zp254 rfl ?_
          exact g_weak (ls' := [zR 81, zI l1, zI l2, zL x4, zJ, zI (w32 (l5 + 1))]) ⟨Or.inr rfl, Or.inr rfl, Or.inr rfl, Or.inr rfl, Or.inr rfl, Or.inr rfl, trivial⟩ h
        · replace h := h.2 c7
          refine g_ic zp254 rfl rfl ?_
          exact g_ret zp254 rfl (zret_b (by decide)) ⟨_, rfl, h⟩
    · replace h := h.2 c5
      refine g_ll zp254 rfl rfl rfl ?_
      refine g_il zp254 rfl rfl rfl ?_
      refine g_i2l zp254 rfl rfl ?_
      refine g_lcmp zp254 rfl rfl rfl rfl zc5 (fun c8 => ?_) (fun c8 => ?_)
      · replace h := h.1 c8
        refine g_ic zp254 rfl rfl ?_
        exact g_ret zp254 rfl (zret_b (by decide)) ⟨_, rfl, h⟩
      · replace h := h.2 c8
        refine g_ll zp254 rfl rfl rfl ?_
        refine g_lc zp254 rfl rfl ?_
        refine g_lcmp zp254 rfl rfl rfl rfl zc2 (fun c9 => ?_) (fun c9 => ?_)
        · replace h := h.1 c9
          refine g_ic zp254 rfl rfl ?_
          exact g_ret zp254 rfl (zret_b (by decide)) ⟨_, rfl, h⟩
        · replace h := h.2 c9
          refine g_ll zp254 rfl rfl rfl ?_
          refine g_lc zp254 rfl rfl ?_
          refine g_lcmp zp254 rfl rfl rfl rfl zc5 (fun c10 => ?_) (fun c10 => ?_)
          · replace h := h.1 c10
            refine g_inc (ls' := [zR 81, zI l1, zI l2, zL x4, zJ, zI (w32 (l5 + 1))]) zp254 rfl rfl rfl rfl ?_
            refine g_goto zp254 rfl ?_
            exact g_weak (ls' := [zR 81, zI l1, zI l2, zL x4, zJ, zI (w32 (l5 + 1))]) ⟨Or.inr rfl, Or.inr rfl, Or.inr rfl, Or.inr rfl, Or.inr rfl, Or.inr rfl, trivial⟩ h
          · replace h := h.2 c10
            refine g_ic zp254 rfl rfl ?_
            exact g_ret zp254 rfl (zret_b (by decide)) ⟨_, rfl, h⟩
