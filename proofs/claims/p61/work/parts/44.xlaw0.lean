/-! the law behind the boot (by wip/p61/gen6.py) -/
theorem xa0_8 {w : zWt} {d : Nat} {H : zHt} {K : Int → zWt → zHt → Prop} 
    (h : zclI w d 41 [zR 32, zI 0] H (fun x2 H1 => (¬ x2 = 0 → K 0 w H1) ∧ (x2 = 0 → zclI w d 41 [zR 32, zI 1] H1 (fun x6 H5 => (¬ x6 = 100000 → K 0 w H5) ∧ (x6 = 100000 → zclI w d 41 [zR 32, zI 2] H5 (fun x10 H9 => (¬ x10 = 30 → K 0 w H9) ∧ (x10 = 30 → zclI w d 41 [zR 32, zI 3] H9 (fun x14 H13 => (¬ x14 = 0 → K 0 w H13) ∧ (x14 = 0 → zclI w d 105 [zR 32, zI 0] H13 (fun x18 H17 => (¬ x18 = (-1) → K 0 w H17) ∧ (x18 = (-1) → zclI w d 9 [zR 32] H17 (fun x22 H21 => (x22 = 2 → zcaR w d 180 [zR 0] H21 (fun x26 w27 H25 => zcaI w27 d 179 [zR 32, zR x26] H25 (fun x29 w30 H28 => (x29 < 2 → K 0 w30 H28) ∧ (2 ≤ x29 → zclL w30 d 51 [zR 32, zI 1] H28 (fun x33 H32 => (¬ x33 = 0 → K 0 w30 H32) ∧ (x33 = 0 → zclI w30 d 61 [zR 32, zI 1] H32 (fun x37 H36 => (x37 = 0 → zga w30 (d + 1) 0 99 [zR 0, zR 32, zI x29, zI 2] [] H36 (zQaI K)) ∧ (¬ x37 = 0 → K 0 w30 H36)))))))) ∧ (¬ x22 = 2 → K 0 w H21))))))))))))) :
    zga w (d + 1) 0 8 [zR 0, zR 32, zJ, zJ] [] H (zQaI K) := by
  refine ga_al zpp0 rfl rfl rfl (by decide) ?_
  refine ga_ic zpp0 rfl rfl ?_
  refine ga_calI (as := [zR 32, zI 0]) (rest := []) zpp0 rfl rfl (Nat.succ_pos _) rfl rfl (Nat.le_of_ble_eq_true rfl) (Nat.le_of_ble_eq_true rfl) rfl rfl h (fun x2 H1 h => ?_)
  refine ga_if zpp0 rfl rfl zc1 (fun c4 => ?_) (fun c4 => ?_)
  · replace h := h.1 c4
    refine ga_ic zpp0 rfl rfl ?_
    exact ga_ret zpp0 rfl (zret_b (by decide)) ⟨_, rfl, h⟩
  · replace h := h.2 c4
    refine ga_al zpp0 rfl rfl rfl (by decide) ?_
    refine ga_ic zpp0 rfl rfl ?_
    refine ga_calI (as := [zR 32, zI 1]) (rest := []) zpp0 rfl rfl (Nat.succ_pos _) rfl rfl (Nat.le_of_ble_eq_true rfl) (Nat.le_of_ble_eq_true rfl) rfl rfl h (fun x6 H5 h => ?_)
    refine ga_ic zpp0 rfl rfl ?_
    refine ga_icmp zpp0 rfl rfl zc1 (fun c8 => ?_) (fun c8 => ?_)
    · replace h := h.1 c8
      refine ga_ic zpp0 rfl rfl ?_
      exact ga_ret zpp0 rfl (zret_b (by decide)) ⟨_, rfl, h⟩
    · replace h := h.2 c8
      refine ga_al zpp0 rfl rfl rfl (by decide) ?_
      refine ga_ic zpp0 rfl rfl ?_
      refine ga_calI (as := [zR 32, zI 2]) (rest := []) zpp0 rfl rfl (Nat.succ_pos _) rfl rfl (Nat.le_of_ble_eq_true rfl) (Nat.le_of_ble_eq_true rfl) rfl rfl h (fun x10 H9 h => ?_)
      refine ga_ic zpp0 rfl rfl ?_
      refine ga_icmp zpp0 rfl rfl zc1 (fun c12 => ?_) (fun c12 => ?_)
      · replace h := h.1 c12
        refine ga_ic zpp0 rfl rfl ?_
        exact ga_ret zpp0 rfl (zret_b (by decide)) ⟨_, rfl, h⟩
      · replace h := h.2 c12
        refine ga_al zpp0 rfl rfl rfl (by decide) ?_
        refine ga_ic zpp0 rfl rfl ?_
        refine ga_calI (as := [zR 32, zI 3]) (rest := []) zpp0 rfl rfl (Nat.succ_pos _) rfl rfl (Nat.le_of_ble_eq_true rfl) (Nat.le_of_ble_eq_true rfl) rfl rfl h (fun x14 H13 h => ?_)
        refine ga_if zpp0 rfl rfl zc1 (fun c16 => ?_) (fun c16 => ?_)
        · replace h := h.1 c16
          refine ga_ic zpp0 rfl rfl ?_
          exact ga_ret zpp0 rfl (zret_b (by decide)) ⟨_, rfl, h⟩
        · replace h := h.2 c16
          refine ga_al zpp0 rfl rfl rfl (by decide) ?_
          refine ga_ic zpp0 rfl rfl ?_
          refine ga_calI (as := [zR 32, zI 0]) (rest := []) zpp0 rfl rfl (Nat.succ_pos _) rfl rfl (Nat.le_of_ble_eq_true rfl) (Nat.le_of_ble_eq_true rfl) rfl rfl h (fun x18 H17 h => ?_)
          refine ga_ic zpp0 rfl rfl ?_
          refine ga_icmp zpp0 rfl rfl zc1 (fun c20 => ?_) (fun c20 => ?_)
          · replace h := h.1 c20
            refine ga_ic zpp0 rfl rfl ?_
            exact ga_ret zpp0 rfl (zret_b (by decide)) ⟨_, rfl, h⟩
          · replace h := h.2 c20
            refine ga_al zpp0 rfl rfl rfl (by decide) ?_
            refine ga_calI (as := [zR 32]) (rest := []) zpp0 rfl rfl (Nat.succ_pos _) rfl rfl (Nat.le_of_ble_eq_true rfl) (Nat.le_of_ble_eq_true rfl) rfl rfl h (fun x22 H21 h => ?_)
            refine ga_ic zpp0 rfl rfl ?_
            refine ga_icmp zpp0 rfl rfl zc0 (fun c24 => ?_) (fun c24 => ?_)
            · replace h := h.1 c24
              refine ga_al zpp0 rfl rfl rfl (by decide) ?_
              refine ga_al zpp0 rfl rfl rfl (by decide) ?_
              refine ga_callR (as := [zR 0]) (rest := [zR 32]) zpp0 rfl rfl (Nat.succ_pos _) rfl rfl (Nat.le_of_ble_eq_true rfl) (Nat.le_of_ble_eq_true rfl) rfl rfl h (fun x26 w27 H25 h => ?_)
              refine ga_callI (as := [zR 32, zR x26]) (rest := []) zpp0 rfl rfl (Nat.succ_pos _) rfl rfl (Nat.le_of_ble_eq_true rfl) (Nat.le_of_ble_eq_true rfl) rfl rfl h (fun x29 w30 H28 h => ?_)
              refine ga_is (ls' := [zR 0, zR 32, zI x29, zJ]) zpp0 rfl rfl (Nat.le_of_ble_eq_true rfl) rfl ?_
              refine ga_il zpp0 rfl rfl rfl ?_
              refine ga_ic zpp0 rfl rfl ?_
              refine ga_icmp zpp0 rfl rfl zc2 (fun c31 => ?_) (fun c31 => ?_)
              · replace h := h.1 c31
                refine ga_ic zpp0 rfl rfl ?_
                exact ga_ret zpp0 rfl (zret_b (by decide)) ⟨_, rfl, h⟩
              · replace h := h.2 c31
                refine ga_al zpp0 rfl rfl rfl (by decide) ?_
                refine ga_ic zpp0 rfl rfl ?_
                refine ga_calL (as := [zR 32, zI 1]) (rest := []) zpp0 rfl rfl (Nat.succ_pos _) rfl rfl (Nat.le_of_ble_eq_true rfl) (Nat.le_of_ble_eq_true rfl) rfl rfl h (fun x33 H32 h => ?_)
                refine ga_lc zpp0 rfl rfl ?_
                refine ga_lcmp zpp0 rfl rfl rfl rfl zc1 (fun c35 => ?_) (fun c35 => ?_)
                · replace h := h.1 c35
                  refine ga_ic zpp0 rfl rfl ?_
                  exact ga_ret zpp0 rfl (zret_b (by decide)) ⟨_, rfl, h⟩
                · replace h := h.2 c35
                  refine ga_al zpp0 rfl rfl rfl (by decide) ?_
                  refine ga_ic zpp0 rfl rfl ?_
                  refine ga_calI (as := [zR 32, zI 1]) (rest := []) zpp0 rfl rfl (Nat.succ_pos _) rfl rfl (Nat.le_of_ble_eq_true rfl) (Nat.le_of_ble_eq_true rfl) rfl rfl h (fun x37 H36 h => ?_)
                  refine ga_if zpp0 rfl rfl zc0 (fun c39 => ?_) (fun c39 => ?_)
                  · replace h := h.1 c39
                    refine ga_ic zpp0 rfl rfl ?_
                    refine ga_is (ls' := [zR 0, zR 32, zI x29, zI 2]) zpp0 rfl rfl (Nat.le_of_ble_eq_true rfl) rfl ?_
                    exact ga_weak (ls' := [zR 0, zR 32, zI x29, zI 2]) ⟨Or.inr rfl, Or.inr rfl, Or.inr rfl, Or.inr rfl, trivial⟩ h
                  · replace h := h.2 c39
                    refine ga_ic zpp0 rfl rfl ?_
                    exact ga_ret zpp0 rfl (zret_b (by decide)) ⟨_, rfl, h⟩
            · replace h := h.2 c24
              refine ga_ic zpp0 rfl rfl ?_
              exact ga_ret zpp0 rfl (zret_b (by decide)) ⟨_, rfl, h⟩
theorem xa0_99 {w : zWt} {d : Nat} {H : zHt} {K : Int → zWt → zHt → Prop} {l2 : Int} {l3 : Int}
    (h : ((w.1 : Int) ≤ l3 → zga w (d + 1) 0 141 [zJ, zR 32, zI l2, zI 0] [] H (zQaI K)) ∧ (l3 < (w.1 : Int) → (14 ≤ l3 → zga w (d + 1) 0 141 [zJ, zR 32, zI l2, zI 0] [] H (zQaI K)) ∧ (l3 < 14 → ((0 : Int) ≤ l3 ∧ l3 < (w.1 : Int)) ∧ zclI w d 171 [zI (zshr (zH0 w.2.1 0 l3) 2), zI 700] H (fun x5 H4 => zcaI w d 175 [zR 32, zI (w32 (1 + x5))] H4 (fun x8 w9 H7 => (¬ x8 = 0 → zga w9 (d + 1) 0 99 [zR 0, zR 32, zI l2, zI (w32 (l3 + 1))] [] H7 (zQaI K)) ∧ (x8 = 0 → K 0 w9 H7)))))) :
    zga w (d + 1) 0 99 [zR 0, zR 32, zI l2, zI l3] [] H (zQaI K) := by
  refine ga_il zpp0 rfl rfl rfl ?_
  refine ga_al zpp0 rfl rfl rfl (by decide) ?_
  refine ga_len zpp0 rfl rfl rfl (by decide) ?_
  refine ga_icmp zpp0 rfl rfl zc3 (fun c1 => ?_) (fun c1 => ?_)
  · replace h := h.1 c1
    refine ga_ic zpp0 rfl rfl ?_
    refine ga_is (ls' := [zR 0, zR 32, zI l2, zI 0]) zpp0 rfl rfl (Nat.le_of_ble_eq_true rfl) rfl ?_
    exact ga_weak (ls' := [zJ, zR 32, zI l2, zI 0]) ⟨Or.inl rfl, Or.inr rfl, Or.inr rfl, Or.inr rfl, trivial⟩ h
  · replace h := h.2 c1
    refine ga_il zpp0 rfl rfl rfl ?_
    refine ga_ic zpp0 rfl rfl ?_
    refine ga_icmp zpp0 rfl rfl zc3 (fun c2 => ?_) (fun c2 => ?_)
    · replace h := h.1 c2
      refine ga_ic zpp0 rfl rfl ?_
      refine ga_is (ls' := [zR 0, zR 32, zI l2, zI 0]) zpp0 rfl rfl (Nat.le_of_ble_eq_true rfl) rfl ?_
      exact ga_weak (ls' := [zJ, zR 32, zI l2, zI 0]) ⟨Or.inl rfl, Or.inr rfl, Or.inr rfl, Or.inr rfl, trivial⟩ h
    · replace h := h.2 c2
      refine ga_al zpp0 rfl rfl rfl (by decide) ?_
      refine ga_ic zpp0 rfl rfl ?_
      refine ga_al zpp0 rfl rfl rfl (by decide) ?_
      refine ga_il zpp0 rfl rfl rfl ?_
      obtain ⟨c3, h⟩ := h
      refine ga_ald (v := zI (zH0 w.2.1 0 l3)) zpp0 rfl rfl rfl rfl c3 rfl ?_
      refine ga_ic zpp0 rfl rfl ?_
      refine ga_ar (r := zshr (zH0 w.2.1 0 l3) 2) zpp0 rfl rfl rfl ?_
      refine ga_ic zpp0 rfl rfl ?_
      refine ga_calI (as := [zI (zshr (zH0 w.2.1 0 l3) 2), zI 700]) (rest := [zI 1, zR 32]) zpp0 rfl rfl (Nat.succ_pos _) rfl rfl (Nat.le_of_ble_eq_true rfl) (Nat.le_of_ble_eq_true rfl) rfl rfl h (fun x5 H4 h => ?_)
      refine ga_ar (r := w32 (1 + x5)) zpp0 rfl rfl rfl ?_
      refine ga_callI (as := [zR 32, zI (w32 (1 + x5))]) (rest := []) zpp0 rfl rfl (Nat.succ_pos _) rfl rfl (Nat.le_of_ble_eq_true rfl) (Nat.le_of_ble_eq_true rfl) rfl rfl h (fun x8 w9 H7 h => ?_)
      refine ga_if zpp0 rfl rfl zc1 (fun c10 => ?_) (fun c10 => ?_)
      · replace h := h.1 c10
        refine ga_inc (ls' := [zR 0, zR 32, zI l2, zI (w32 (l3 + 1))]) zpp0 rfl rfl rfl rfl ?_
        refine ga_goto zpp0 rfl ?_
        exact ga_weak (ls' := [zR 0, zR 32, zI l2, zI (w32 (l3 + 1))]) ⟨Or.inr rfl, Or.inr rfl, Or.inr rfl, Or.inr rfl, trivial⟩ h
      · replace h := h.2 c10
        refine ga_ic zpp0 rfl rfl ?_
        exact ga_ret zpp0 rfl (zret_b (by decide)) ⟨_, rfl, h⟩
theorem xa0_141 {w : zWt} {d : Nat} {H : zHt} {K : Int → zWt → zHt → Prop} {l2 : Int} {l3 : Int}
    (h : (l2 ≤ l3 → zclL w d 51 [zR 32, zI 0] H (fun x3 H2 => (¬ x3 = (-1) → K 0 w H2) ∧ (x3 = (-1) → zclI w d 9 [zR 32] H2 (fun x7 H6 => (¬ x7 = 1 → K 0 w H6) ∧ (x7 = 1 → zclI w d 42 [zR 32, zI 6, zI (-2), zI 0] H6 (fun x11 H10 => (¬ x11 = (-1) → K 0 w H10) ∧ (x11 = (-1) → zclI w d 9 [zR 32] H10 (fun x15 H14 => (¬ x15 = 1 → K 0 w H14) ∧ (x15 = 1 → zclI w d 63 [zR 32, zI 7, zI 0] H14 (fun x19 H18 => (¬ x19 = (-1) → K 0 w H18) ∧ (x19 = (-1) → zclI w d 9 [zR 32] H18 (fun x23 H22 => (¬ x23 = 5 → K 0 w H22) ∧ (x23 = 5 → zclI w d 107 [zR 32, zI l2, zI 0] H22 (fun x27 H26 => (¬ x27 = (-1) → K 0 w H26) ∧ (x27 = (-1) → zclI w d 9 [zR 32] H26 (fun x31 H30 => (¬ x31 = 2 → K 0 w H30) ∧ (x31 = 2 → zclI w d 70 [zR 32, zI 6, zI 4] H30 (fun x35 H34 => (¬ x35 = (-1) → K 0 w H34) ∧ (x35 = (-1) → zclI w d 9 [zR 32] H34 (fun x39 H38 => (¬ x39 = 5 → K 0 w H38) ∧ (x39 = 5 → zclI w d 41 [zR 32, zI 5] H38 (fun x43 H42 => (¬ x43 = (-1) → K 0 w H42) ∧ (x43 = (-1) → zclI w d 9 [zR 32] H42 (fun x47 H46 => (¬ x47 = 1 → K 0 w H46) ∧ (x47 = 1 → zclI w d 40 [zR 32, zI 0] H46 (fun x51 H50 => (¬ x51 = 0 → K 0 w H50) ∧ (x51 = 0 → zclI w d 40 [zR 32, zI 2] H50 (fun x55 H54 => (¬ x55 = (-1) → K 0 w H54) ∧ (x55 = (-1) → K 1 w H54))))))))))))))))))))))))))))) ∧ (l3 < l2 → zcaI w d 177 [zR 32, zI l3] H (fun x59 w60 H58 => (¬ x59 = 0 → zga w60 (d + 1) 0 141 [zJ, zR 32, zI l2, zI (w32 (l3 + 1))] [] H58 (zQaI K)) ∧ (x59 = 0 → K 0 w60 H58)))) :
    zga w (d + 1) 0 141 [zJ, zR 32, zI l2, zI l3] [] H (zQaI K) := by
  refine ga_il zpp0 rfl rfl rfl ?_
  refine ga_il zpp0 rfl rfl rfl ?_
  refine ga_icmp zpp0 rfl rfl zc3 (fun c1 => ?_) (fun c1 => ?_)
  · replace h := h.1 c1
    refine ga_al zpp0 rfl rfl rfl (by decide) ?_
    refine ga_ic zpp0 rfl rfl ?_
    refine ga_calL (as := [zR 32, zI 0]) (rest := []) zpp0 rfl rfl (Nat.succ_pos _) rfl rfl (Nat.le_of_ble_eq_true rfl) (Nat.le_of_ble_eq_true rfl) rfl rfl h (fun x3 H2 h => ?_)
    refine ga_lc zpp0 rfl rfl ?_
    refine ga_lcmp zpp0 rfl rfl rfl rfl zc1 (fun c5 => ?_) (fun c5 => ?_)
    · replace h := h.1 c5
      refine ga_ic zpp0 rfl rfl ?_
      exact ga_ret zpp0 rfl (zret_b (by decide)) ⟨_, rfl, h⟩
    · replace h := h.2 c5
      refine ga_al zpp0 rfl rfl rfl (by decide) ?_
      refine ga_calI (as := [zR 32]) (rest := []) zpp0 rfl rfl (Nat.succ_pos _) rfl rfl (Nat.le_of_ble_eq_true rfl) (Nat.le_of_ble_eq_true rfl) rfl rfl h (fun x7 H6 h => ?_)
      refine ga_ic zpp0 rfl rfl ?_
      refine ga_icmp zpp0 rfl rfl zc1 (fun c9 => ?_) (fun c9 => ?_)
      · replace h := h.1 c9
        refine ga_ic zpp0 rfl rfl ?_
        exact ga_ret zpp0 rfl (zret_b (by decide)) ⟨_, rfl, h⟩
      · replace h := h.2 c9
        refine ga_al zpp0 rfl rfl rfl (by decide) ?_
        refine ga_ic zpp0 rfl rfl ?_
        refine ga_ic zpp0 rfl rfl ?_
        refine ga_ic zpp0 rfl rfl ?_
        refine ga_calI (as := [zR 32, zI 6, zI (-2), zI 0]) (rest := []) zpp0 rfl rfl (Nat.succ_pos _) rfl rfl (Nat.le_of_ble_eq_true rfl) (Nat.le_of_ble_eq_true rfl) rfl rfl h (fun x11 H10 h => ?_)
        refine ga_ic zpp0 rfl rfl ?_
        refine ga_icmp zpp0 rfl rfl zc1 (fun c13 => ?_) (fun c13 => ?_)
        · replace h := h.1 c13
          refine ga_ic zpp0 rfl rfl ?_
          exact ga_ret zpp0 rfl (zret_b (by decide)) ⟨_, rfl, h⟩
        · replace h := h.2 c13
          refine ga_al zpp0 rfl rfl rfl (by decide) ?_
          refine ga_calI (as := [zR 32]) (rest := []) zpp0 rfl rfl (Nat.succ_pos _) rfl rfl (Nat.le_of_ble_eq_true rfl) (Nat.le_of_ble_eq_true rfl) rfl rfl h (fun x15 H14 h => ?_)
          refine ga_ic zpp0 rfl rfl ?_
          refine ga_icmp zpp0 rfl rfl zc1 (fun c17 => ?_) (fun c17 => ?_)
          · replace h := h.1 c17
            refine ga_ic zpp0 rfl rfl ?_
            exact ga_ret zpp0 rfl (zret_b (by decide)) ⟨_, rfl, h⟩
          · replace h := h.2 c17
            refine ga_al zpp0 rfl rfl rfl (by decide) ?_
            refine ga_ic zpp0 rfl rfl ?_
            refine ga_ic zpp0 rfl rfl ?_
            refine ga_calI (as := [zR 32, zI 7, zI 0]) (rest := []) zpp0 rfl rfl (Nat.succ_pos _) rfl rfl (Nat.le_of_ble_eq_true rfl) (Nat.le_of_ble_eq_true rfl) rfl rfl h (fun x19 H18 h => ?_)
            refine ga_ic zpp0 rfl rfl ?_
            refine ga_icmp zpp0 rfl rfl zc1 (fun c21 => ?_) (fun c21 => ?_)
            · replace h := h.1 c21
              refine ga_ic zpp0 rfl rfl ?_
              exact ga_ret zpp0 rfl (zret_b (by decide)) ⟨_, rfl, h⟩
            · replace h := h.2 c21
              refine ga_al zpp0 rfl rfl rfl (by decide) ?_
              refine ga_calI (as := [zR 32]) (rest := []) zpp0 rfl rfl (Nat.succ_pos _) rfl rfl (Nat.le_of_ble_eq_true rfl) (Nat.le_of_ble_eq_true rfl) rfl rfl h (fun x23 H22 h => ?_)
              refine ga_ic zpp0 rfl rfl ?_
              refine ga_icmp zpp0 rfl rfl zc1 (fun c25 => ?_) (fun c25 => ?_)
              · replace h := h.1 c25
                refine ga_ic zpp0 rfl rfl ?_
                exact ga_ret zpp0 rfl (zret_b (by decide)) ⟨_, rfl, h⟩
              · replace h := h.2 c25
                refine ga_al zpp0 rfl rfl rfl (by decide) ?_
                refine ga_il zpp0 rfl rfl rfl ?_
                refine ga_ic zpp0 rfl rfl ?_
                refine ga_calI (as := [zR 32, zI l2, zI 0]) (rest := []) zpp0 rfl rfl (Nat.succ_pos _) rfl rfl (Nat.le_of_ble_eq_true rfl) (Nat.le_of_ble_eq_true rfl) rfl rfl h (fun x27 H26 h => ?_)
                refine ga_ic zpp0 rfl rfl ?_
                refine ga_icmp zpp0 rfl rfl zc1 (fun c29 => ?_) (fun c29 => ?_)
                · replace h := h.1 c29
                  refine ga_ic zpp0 rfl rfl ?_
                  exact ga_ret zpp0 rfl (zret_b (by decide)) ⟨_, rfl, h⟩
                · replace h := h.2 c29
                  refine ga_al zpp0 rfl rfl rfl (by decide) ?_
                  refine ga_calI (as := [zR 32]) (rest := []) zpp0 rfl rfl (Nat.succ_pos _) rfl rfl (Nat.le_of_ble_eq_true rfl) (Nat.le_of_ble_eq_true rfl) rfl rfl h (fun x31 H30 h => ?_)
                  refine ga_ic zpp0 rfl rfl ?_
                  refine ga_icmp zpp0 rfl rfl zc1 (fun c33 => ?_) (fun c33 => ?_)
                  · replace h := h.1 c33
                    refine ga_ic zpp0 rfl rfl ?_
                    exact ga_ret zpp0 rfl (zret_b (by decide)) ⟨_, rfl, h⟩
                  · replace h := h.2 c33
                    refine ga_al zpp0 rfl rfl rfl (by decide) ?_
                    refine ga_ic zpp0 rfl rfl ?_
                    refine ga_ic zpp0 rfl rfl ?_
                    refine ga_calI (as := [zR 32, zI 6, zI 4]) (rest := []) zpp0 rfl rfl (Nat.succ_pos _) rfl rfl (Nat.le_of_ble_eq_true rfl) (Nat.le_of_ble_eq_true rfl) rfl rfl h (fun x35 H34 h => ?_)
                    refine ga_ic zpp0 rfl rfl ?_
                    refine ga_icmp zpp0 rfl rfl zc1 (fun c37 => ?_) (fun c37 => ?_)
                    · replace h := h.1 c37
                      refine ga_ic zpp0 rfl rfl ?_
                      exact ga_ret zpp0 rfl (zret_b (by decide)) ⟨_, rfl, h⟩
                    · replace h := h.2 c37
                      refine ga_al zpp0 rfl rfl rfl (by decide) ?_
                      refine ga_calI (as := [zR 32]) (rest := []) zpp0 rfl rfl (Nat.succ_pos _) rfl rfl (Nat.le_of_ble_eq_true rfl) (Nat.le_of_ble_eq_true rfl) rfl rfl h (fun x39 H38 h => ?_)
                      refine ga_ic zpp0 rfl rfl ?_
                      refine ga_icmp zpp0 rfl rfl zc1 (fun c41 => ?_) (fun c41 => ?_)
                      · replace h := h.1 c41
                        refine ga_ic zpp0 rfl rfl ?_
                        exact ga_ret zpp0 rfl (zret_b (by decide)) ⟨_, rfl, h⟩
                      · replace h := h.2 c41
                        refine ga_al zpp0 rfl rfl rfl (by decide) ?_
                        refine ga_ic zpp0 rfl rfl ?_
                        refine ga_calI (as := [zR 32, zI 5]) (rest := []) zpp0 rfl rfl (Nat.succ_pos _) rfl rfl (Nat.le_of_ble_eq_true rfl) (Nat.le_of_ble_eq_true rfl) rfl rfl h (fun x43 H42 h => ?_)
                        refine ga_ic zpp0 rfl rfl ?_
                        refine ga_icmp zpp0 rfl rfl zc1 (fun c45 => ?_) (fun c45 => ?_)
                        · replace h := h.1 c45
                          refine ga_ic zpp0 rfl rfl ?_
                          exact ga_ret zpp0 rfl (zret_b (by decide)) ⟨_, rfl, h⟩
                        · replace h := h.2 c45
                          refine ga_al zpp0 rfl rfl rfl (by decide) ?_
                          refine ga_calI (as := [zR 32]) (rest := []) zpp0 rfl rfl (Nat.succ_pos _) rfl rfl (Nat.le_of_ble_eq_true rfl) (Nat.le_of_ble_eq_true rfl) rfl rfl h (fun x47 H46 h => ?_)
                          refine ga_ic zpp0 rfl rfl ?_
                          refine ga_icmp zpp0 rfl rfl zc1 (fun c49 => ?_) (fun c49 => ?_)
                          · replace h := h.1 c49
                            refine ga_ic zpp0 rfl rfl ?_
                            exact ga_ret zpp0 rfl (zret_b (by decide)) ⟨_, rfl, h⟩
                          · replace h := h.2 c49
                            refine ga_al zpp0 rfl rfl rfl (by decide) ?_
                            refine ga_ic zpp0 rfl rfl ?_
                            refine ga_calI (as := [zR 32, zI 0]) (rest := []) zpp0 rfl rfl (Nat.succ_pos _) rfl rfl (Nat.le_of_ble_eq_true rfl) (Nat.le_of_ble_eq_true rfl) rfl rfl h (fun x51 H50 h => ?_)
                            refine ga_if zpp0 rfl rfl zc1 (fun c53 => ?_) (fun c53 => ?_)
                            · replace h := h.1 c53
                              refine ga_ic zpp0 rfl rfl ?_
                              exact ga_ret zpp0 rfl (zret_b (by decide)) ⟨_, rfl, h⟩
                            · replace h := h.2 c53
                              refine ga_al zpp0 rfl rfl rfl (by decide) ?_
                              refine ga_ic zpp0 rfl rfl ?_
                              refine ga_calI (as := [zR 32, zI 2]) (rest := []) zpp0 rfl rfl (Nat.succ_pos _) rfl rfl (Nat.le_of_ble_eq_true rfl) (Nat.le_of_ble_eq_true rfl) rfl rfl h (fun x55 H54 h => ?_)
                              refine ga_ic zpp0 rfl rfl ?_
                              refine ga_icmp zpp0 rfl rfl zc1 (fun c57 => ?_) (fun c57 => ?_)
                              · replace h := h.1 c57
                                refine ga_ic zpp0 rfl rfl ?_
                                exact ga_ret zpp0 rfl (zret_b (by decide)) ⟨_, rfl, h⟩
                              · replace h := h.2 c57
                                refine ga_ic zpp0 rfl rfl ?_
                                refine ga_goto zpp0 rfl ?_
                                exact ga_ret zpp0 rfl (zret_b (by decide)) ⟨_, rfl, h⟩
  · replace h := h.2 c1
    refine ga_al zpp0 rfl rfl rfl (by decide) ?_
    refine ga_il zpp0 rfl rfl rfl ?_
    refine ga_callI (as := [zR 32, zI l3]) (rest := []) zpp0 rfl rfl (Nat.succ_pos _) rfl rfl (Nat.le_of_ble_eq_true rfl) (Nat.le_of_ble_eq_true rfl) rfl rfl h (fun x59 w60 H58 h => ?_)
    refine ga_if zpp0 rfl rfl zc1 (fun c61 => ?_) (fun c61 => ?_)
    · replace h := h.1 c61
      refine ga_inc (ls' := [zJ, zR 32, zI l2, zI (w32 (l3 + 1))]) zpp0 rfl rfl rfl rfl ?_
      refine ga_goto zpp0 rfl ?_
      exact ga_weak (ls' := [zJ, zR 32, zI l2, zI (w32 (l3 + 1))]) ⟨Or.inr rfl, Or.inr rfl, Or.inr rfl, Or.inr rfl, trivial⟩ h
    · replace h := h.2 c61
      refine ga_ic zpp0 rfl rfl ?_
      exact ga_ret zpp0 rfl (zret_b (by decide)) ⟨_, rfl, h⟩
