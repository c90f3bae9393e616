/-! segments: what suffices for a run from there on (by wip/whole/gen3.py) -/
theorem zp132 : zprog.getD 132 [] = zk132 := rfl
theorem x132_0 {w : zWt} {d : Nat} {H : zHt} {K : Int → zHt → Prop} {l1 : Int} {l2 : Int}
    (h : (1 ≤ l2 → zclI w d 106 [zR 32, zI l1] H (fun x3 H2 => (¬ x3 = 0 → zclR w d 108 [zR 32, zI l1] H2 (fun x6 H5 => (zisW x6) ∧ (l2 < (H5 x6 1) → (0 ≤ l2 ∧ l2 < 101) ∧ (0 ≤ (w32 (l2 - 1)) ∧ (w32 (l2 - 1)) < 101) ∧ zclI w d 64 [zI (H5 (x6 + 1) l2)] H5 (fun x11 H10 => (x11 = 0 → zclI w d 39 [zR 32, zI 0] H10 (fun x14 H13 => K x14 H13)) ∧ (¬ x11 = 0 → zclI w d 64 [zI (H5 (x6 + 1) (w32 (l2 - 1)))] H10 (fun x16 H15 => (x16 = 0 → zclI w d 39 [zR 32, zI 0] H15 (fun x19 H18 => K x19 H18)) ∧ (¬ x16 = 0 → zclI w d 64 [zI (H5 (x6 + 1) l2)] H15 (fun x21 H20 => zclI w d 64 [zI (H5 (x6 + 1) (w32 (l2 - 1)))] H20 (fun x23 H22 => (¬ x21 = x23 → zclI w d 67 [zI (H5 (x6 + 1) l2)] H22 (fun x26 H25 => zclI w d 67 [zI (H5 (x6 + 1) (w32 (l2 - 1)))] H25 (fun x28 H27 => (x26 = x28 → zclI w d 39 [zR 32, zI 2] H27 (fun x31 H30 => K x31 H30)) ∧ (¬ x26 = x28 → zclI w d 39 [zR 32, zI 1] H27 (fun x33 H32 => K x33 H32))))) ∧ (x21 = x23 → zclI w d 39 [zR 32, zI 0] H22 (fun x35 H34 => K x35 H34))))))))) ∧ ((H5 x6 1) ≤ l2 → zclI w d 13 [zR 32, zI 5] H5 (fun x37 H36 => K x37 H36)))) ∧ (x3 = 0 → zclI w d 13 [zR 32, zI 2] H2 (fun x39 H38 => K x39 H38)))) ∧ (l2 < 1 → zclI w d 13 [zR 32, zI 1] H (fun x41 H40 => K x41 H40))) :
    zclI w (d + 1) 132 [zR 32, zI l1, zI l2] H K := by
  show zgo w (d + 1) 132 0 [zR 32, zI l1, zI l2, zJ, zJ, zJ] [] H (zQI K)
  refine g_il zp132 rfl rfl rfl ?_
  refine g_ic zp132 rfl rfl ?_
  refine g_icmp zp132 rfl rfl zc3 (fun c1 => ?_) (fun c1 => ?_)
  · replace h := h.1 c1
    refine g_al zp132 rfl rfl rfl (by decide) ?_
    refine g_il zp132 rfl rfl rfl ?_
    refine g_callI (as := [zR 32, zI l1]) (rest := []) zp132 rfl rfl (Nat.succ_pos _) rfl rfl (Nat.le_of_ble_eq_true rfl) (Nat.le_of_ble_eq_true rfl) rfl rfl h (fun x3 H2 h => ?_)
    refine g_if zp132 rfl rfl zc1 (fun c4 => ?_) (fun c4 => ?_)
    · replace h := h.1 c4
      refine g_al zp132 rfl rfl rfl (by decide) ?_
      refine g_il zp132 rfl rfl rfl ?_
      refine g_callR (as := [zR 32, zI l1]) (rest := []) zp132 rfl rfl (Nat.succ_pos _) rfl rfl (Nat.le_of_ble_eq_true rfl) (Nat.le_of_ble_eq_true rfl) rfl rfl h (fun x6 H5 h => ?_)
      obtain ⟨fx6, h⟩ := h
      refine g_as (ls' := [zR 32, zI l1, zI l2, zR x6, zJ, zJ]) zp132 rfl rfl (Nat.le_of_ble_eq_true rfl) (Int.le_trans (by decide) (zW_ge fx6)) rfl ?_
      refine g_il zp132 rfl rfl rfl ?_
      refine g_al zp132 rfl rfl rfl (Int.le_trans (by decide) (zW_ge fx6)) ?_
      refine g_get (v := zI (H5 x6 1)) zp132 rfl rfl (zW_sh fx6) ⟨rfl, by decide, (zW_ge fx6)⟩ (congrArg (ztag _) (zM_no (zW_ge fx6) (zW_fx fx6 1 (by decide)))) ?_
      refine g_icmp zp132 rfl rfl zc2 (fun c7 => ?_) (fun c7 => ?_)
      · replace h := h.1 c7
        refine g_al zp132 rfl rfl rfl (Int.le_trans (by decide) (zW_ge fx6)) ?_
        refine g_get (v := zR (x6 + 1)) zp132 rfl rfl (zW_sh fx6) ⟨rfl, by decide, (zW_ge fx6)⟩ (congrArg (ztag _) (zW_f0 fx6)) ?_
        refine g_il zp132 rfl rfl rfl ?_
        obtain ⟨c8, h⟩ := h
        refine g_ald (v := zI (H5 (x6 + 1) l2)) zp132 rfl rfl (zW_sh1 fx6) rfl c8 (congrArg (ztag _) (zM_no (zW_ge1 fx6) (zW_fx1 fx6 _))) ?_
        refine g_is (ls' := [zR 32, zI l1, zI l2, zR x6, zI (H5 (x6 + 1) l2), zJ]) zp132 rfl rfl (Nat.le_of_ble_eq_true rfl) rfl ?_
        refine g_al zp132 rfl rfl rfl (Int.le_trans (by decide) (zW_ge fx6)) ?_
        refine g_get (v := zR (x6 + 1)) zp132 rfl rfl (zW_sh fx6) ⟨rfl, by decide, (zW_ge fx6)⟩ (congrArg (ztag _) (zW_f0 fx6)) ?_
        refine g_il zp132 rfl rfl rfl ?_
        refine g_ic zp132 rfl rfl ?_
        refine g_ar (r := w32 (l2 - 1)) zp132 rfl rfl rfl ?_
        obtain ⟨c9, h⟩ := h
        refine g_ald (v := zI (H5 (x6 + 1) (w32 (l2 - 1)))) zp132 rfl rfl (zW_sh1 fx6) rfl c9 (congrArg (ztag _) (zM_no (zW_ge1 fx6) (zW_fx1 fx6 _))) ?_
        refine g_is (ls' := [zR 32, zI l1, zI l2, zR x6, zI (H5 (x6 + 1) l2), zI (H5 (x6 + 1) (w32 (l2 - 1)))]) zp132 rfl rfl (Nat.le_of_ble_eq_true rfl) rfl ?_
        refine g_il zp132 rfl rfl rfl ?_
        refine g_callI (as := [zI (H5 (x6 + 1) l2)]) (rest := []) zp132 rfl rfl (Nat.succ_pos _) rfl rfl (Nat.le_of_ble_eq_true rfl) (Nat.le_of_ble_eq_true rfl) rfl rfl h (fun x11 H10 h => ?_)
        refine g_if zp132 rfl rfl zc0 (fun c12 => ?_) (fun c12 => ?_)
        · replace h := h.1 c12
          refine g_al zp132 rfl rfl rfl (by decide) ?_
          refine g_ic zp132 rfl rfl ?_
          refine g_callI (as := [zR 32, zI 0]) (rest := []) zp132 rfl rfl (Nat.succ_pos _) rfl rfl (Nat.le_of_ble_eq_true rfl) (Nat.le_of_ble_eq_true rfl) rfl rfl h (fun x14 H13 h => ?_)
          exact g_ret zp132 rfl rfl ⟨_, rfl, h⟩
        · replace h := h.2 c12
          refine g_il zp132 rfl rfl rfl ?_
          refine g_callI (as := [zI (H5 (x6 + 1) (w32 (l2 - 1)))]) (rest := []) zp132 rfl rfl (Nat.succ_pos _) rfl rfl (Nat.le_of_ble_eq_true rfl) (Nat.le_of_ble_eq_true rfl) rfl rfl h (fun x16 H15 h => ?_)
          refine g_if zp132 rfl rfl zc0 (fun c17 => ?_) (fun c17 => ?_)
          · replace h := h.1 c17
            refine g_al zp132 rfl rfl rfl (by decide) ?_
            refine g_ic zp132 rfl rfl ?_
            refine g_callI (as := [zR 32, zI 0]) (rest := []) zp132 rfl rfl (Nat.succ_pos _) rfl rfl (Nat.le_of_ble_eq_true rfl) (Nat.le_of_ble_eq_true rfl) rfl rfl h (fun x19 H18 h => ?_)
            exact g_ret zp132 rfl rfl ⟨_, rfl, h⟩
          · replace h := h.2 c17
            refine g_il zp132 rfl rfl rfl ?_
            refine g_callI (as := [zI (H5 (x6 + 1) l2)]) (rest := []) zp132 rfl rfl (Nat.succ_pos _) rfl rfl (Nat.le_of_ble_eq_true rfl) (Nat.le_of_ble_eq_true rfl) rfl rfl h (fun x21 H20 h => ?_)
            refine g_il zp132 rfl rfl rfl ?_
            refine g_callI (as := [zI (H5 (x6 + 1) (w32 (l2 - 1)))]) (rest := [zI x21]) zp132 rfl rfl (Nat.succ_pos _) rfl rfl (Nat.le_of_ble_eq_true rfl) (Nat.le_of_ble_eq_true rfl) rfl rfl h (fun x23 H22 h => ?_)
            refine g_icmp zp132 rfl rfl zc1 (fun c24 => ?_) (fun c24 => ?_)
            · replace h := h.1 c24
              refine g_al zp132 rfl rfl rfl (by decide) ?_
              refine g_il zp132 rfl rfl rfl ?_
              refine g_callI (as := [zI (H5 (x6 + 1) l2)]) (rest := [zR 32]) zp132 rfl rfl (Nat.succ_pos _) rfl rfl (Nat.le_of_ble_eq_true rfl) (Nat.le_of_ble_eq_true rfl) rfl rfl h (fun x26 H25 h => ?_)
              refine g_il zp132 rfl rfl rfl ?_
              refine g_callI (as := [zI (H5 (x6 + 1) (w32 (l2 - 1)))]) (rest := [zI x26, zR 32]) zp132 rfl rfl (Nat.succ_pos _) rfl rfl (Nat.le_of_ble_eq_true rfl) (Nat.le_of_ble_eq_true rfl) rfl rfl h (fun x28 H27 h => ?_)
              refine g_icmp zp132 rfl rfl zc0 (fun c29 => ?_) (fun c29 => ?_)
              · replace h := h.1 c29
                refine g_ic zp132 rfl rfl ?_
                refine g_callI (as := [zR 32, zI 2]) (rest := []) zp132 rfl rfl (Nat.succ_pos _) rfl rfl (Nat.le_of_ble_eq_true rfl) (Nat.le_of_ble_eq_true rfl) rfl rfl h (fun x31 H30 h => ?_)
                exact g_ret zp132 rfl rfl ⟨_, rfl, h⟩
              · replace h := h.2 c29
                refine g_ic zp132 rfl rfl ?_
                refine g_goto zp132 rfl ?_
                refine g_callI (as := [zR 32, zI 1]) (rest := []) zp132 rfl rfl (Nat.succ_pos _) rfl rfl (Nat.le_of_ble_eq_true rfl) (Nat.le_of_ble_eq_true rfl) rfl rfl h (fun x33 H32 h => ?_)
                exact g_ret zp132 rfl rfl ⟨_, rfl, h⟩
            · replace h := h.2 c24
              refine g_al zp132 rfl rfl rfl (by decide) ?_
              refine g_ic zp132 rfl rfl ?_
              refine g_callI (as := [zR 32, zI 0]) (rest := []) zp132 rfl rfl (Nat.succ_pos _) rfl rfl (Nat.le_of_ble_eq_true rfl) (Nat.le_of_ble_eq_true rfl) rfl rfl h (fun x35 H34 h => ?_)
              exact g_ret zp132 rfl rfl ⟨_, rfl, h⟩
      · replace h := h.2 c7
        refine g_al zp132 rfl rfl rfl (by decide) ?_
        refine g_ic zp132 rfl rfl ?_
        refine g_callI (as := [zR 32, zI 5]) (rest := []) zp132 rfl rfl (Nat.succ_pos _) rfl rfl (Nat.le_of_ble_eq_true rfl) (Nat.le_of_ble_eq_true rfl) rfl rfl h (fun x37 H36 h => ?_)
        exact g_ret zp132 rfl rfl ⟨_, rfl, h⟩
    · replace h := h.2 c4
      refine g_al zp132 rfl rfl rfl (by decide) ?_
      refine g_ic zp132 rfl rfl ?_
      refine g_callI (as := [zR 32, zI 2]) (rest := []) zp132 rfl rfl (Nat.succ_pos _) rfl rfl (Nat.le_of_ble_eq_true rfl) (Nat.le_of_ble_eq_true rfl) rfl rfl h (fun x39 H38 h => ?_)
      exact g_ret zp132 rfl rfl ⟨_, rfl, h⟩
  · replace h := h.2 c1
    refine g_al zp132 rfl rfl rfl (by decide) ?_
    refine g_ic zp132 rfl rfl ?_
    refine g_callI (as := [zR 32, zI 1]) (rest := []) zp132 rfl rfl (Nat.succ_pos _) rfl rfl (Nat.le_of_ble_eq_true rfl) (Nat.le_of_ble_eq_true rfl) rfl rfl h (fun x41 H40 h => ?_)
    exact g_ret zp132 rfl rfl ⟨_, rfl, h⟩
theorem zp133 : zprog.getD 133 [] = zk133 := rfl
theorem x133_0 {w : zWt} {d : Nat} {H : zHt} {K : Int → zHt → Prop} {l1 : Int} {l2 : Int} {l3 : Int}
    (h : zclI w d 44 [zI l3, zI 3] H (fun x2 H1 => (¬ x2 = 0 → zclI w d 106 [zR 32, zI l1] H1 (fun x5 H4 => (x5 = 0 → zclI w d 13 [zR 32, zI 2] H4 (fun x8 H7 => K x8 H7)) ∧ (¬ x5 = 0 → zclI w d 106 [zR 32, zI l2] H4 (fun x10 H9 => (¬ x10 = 0 → (¬ l1 = l2 → zclR w d 108 [zR 32, zI l1] H9 (fun x14 H13 => (zisW x14) ∧ zclR w d 108 [zR 32, zI l2] H13 (fun x16 H15 => (zisW x16) ∧ (l3 < 0 ∨ 3 ≤ l3 → zclI w d 39 [zR 32, zI (w32 ((if H15 x16 1 < H15 x14 1 then H15 x16 1 else H15 x14 1) - 1))] H15 (fun x18 H17 => K x18 H17)) ∧ (l3 = 0 → zclI w d 134 [zR x14, zR x16] H15 (fun x20 H19 => zclI w d 39 [zR 32, zI x20] H19 (fun x22 H21 => K x22 H21))) ∧ (l3 = 1 → zclI w d 134 [zR x16, zR x14] H15 (fun x24 H23 => zclI w d 39 [zR 32, zI x24] H23 (fun x26 H25 => K x26 H25))) ∧ (l3 = 2 → zclI w d 135 [zR x14, zR x16] H15 (fun x28 H27 => zclI w d 39 [zR 32, zI x28] H27 (fun x30 H29 => K x30 H29)))))) ∧ (l1 = l2 → zclI w d 13 [zR 32, zI 4] H9 (fun x32 H31 => K x32 H31))) ∧ (x10 = 0 → zclI w d 13 [zR 32, zI 2] H9 (fun x34 H33 => K x34 H33)))))) ∧ (x2 = 0 → zclI w d 13 [zR 32, zI 1] H1 (fun x36 H35 => K x36 H35)))) :
    zclI w (d + 1) 133 [zR 32, zI l1, zI l2, zI l3] H K := by
  show zgo w (d + 1) 133 0 [zR 32, zI l1, zI l2, zI l3, zJ, zJ, zJ] [] H (zQI K)
  refine g_il zp133 rfl rfl rfl ?_
  refine g_ic zp133 rfl rfl ?_
  refine g_callI (as := [zI l3, zI 3]) (rest := []) zp133 rfl rfl (Nat.succ_pos _) rfl rfl (Nat.le_of_ble_eq_true rfl) (Nat.le_of_ble_eq_true rfl) rfl rfl h (fun x2 H1 h => ?_)
  refine g_if zp133 rfl rfl zc1 (fun c3 => ?_) (fun c3 => ?_)
  · replace h := h.1 c3
    refine g_al zp133 rfl rfl rfl (by decide) ?_
    refine g_il zp133 rfl rfl rfl ?_
    refine g_callI (as := [zR 32, zI l1]) (rest := []) zp133 rfl rfl (Nat.succ_pos _) rfl rfl (Nat.le_of_ble_eq_true rfl) (Nat.le_of_ble_eq_true rfl) rfl rfl h (fun x5 H4 h => ?_)
    refine g_if zp133 rfl rfl zc0 (fun c6 => ?_) (fun c6 => ?_)
    · replace h := h.1 c6
      refine g_al zp133 rfl rfl rfl (by decide) ?_
      refine g_ic zp133 rfl rfl ?_
      refine g_callI (as := [zR 32, zI 2]) (rest := []) zp133 rfl rfl (Nat.succ_pos _) rfl rfl (Nat.le_of_ble_eq_true rfl) (Nat.le_of_ble_eq_true rfl) rfl rfl h (fun x8 H7 h => ?_)
      exact g_ret zp133 rfl rfl ⟨_, rfl, h⟩
    · replace h := h.2 c6
      refine g_al zp133 rfl rfl rfl (by decide) ?_
      refine g_il zp133 rfl rfl rfl ?_
      refine g_callI (as := [zR 32, zI l2]) (rest := []) zp133 rfl rfl (Nat.succ_pos _) rfl rfl (Nat.le_of_ble_eq_true rfl) (Nat.le_of_ble_eq_true rfl) rfl rfl h (fun x10 H9 h => ?_)
      refine g_if zp133 rfl rfl zc1 (fun c11 => ?_) (fun c11 => ?_)
      · replace h := h.1 c11
        refine g_il zp133 rfl rfl rfl ?_
        refine g_il zp133 rfl rfl rfl ?_
        refine g_icmp zp133 rfl rfl zc1 (fun c12 => ?_) (fun c12 => ?_)
        · replace h := h.1 c12
          refine g_al zp133 rfl rfl rfl (by decide) ?_
          refine g_il zp133 rfl rfl rfl ?_
          refine g_callR (as := [zR 32, zI l1]) (rest := []) zp133 rfl rfl (Nat.succ_pos _) rfl rfl (Nat.le_of_ble_eq_true rfl) (Nat.le_of_ble_eq_true rfl) rfl rfl h (fun x14 H13 h => ?_)
          obtain ⟨fx14, h⟩ := h
          refine g_as (ls' := [zR 32, zI l1, zI l2, zI l3, zR x14, zJ, zJ]) zp133 rfl rfl (Nat.le_of_ble_eq_true rfl) (Int.le_trans (by decide) (zW_ge fx14)) rfl ?_
          refine g_al zp133 rfl rfl rfl (by decide) ?_
          refine g_il zp133 rfl rfl rfl ?_
          refine g_callR (as := [zR 32, zI l2]) (rest := []) zp133 rfl rfl (Nat.succ_pos _) rfl rfl (Nat.le_of_ble_eq_true rfl) (Nat.le_of_ble_eq_true rfl) rfl rfl h (fun x16 H15 h => ?_)
          obtain ⟨fx16, h⟩ := h
          refine g_as (ls' := [zR 32, zI l1, zI l2, zI l3, zR x14, zR x16, zJ]) zp133 rfl rfl (Nat.le_of_ble_eq_true rfl) (Int.le_trans (by decide) (zW_ge fx16)) rfl ?_
          refine g_al zp133 rfl rfl rfl (Int.le_trans (by decide) (zW_ge fx14)) ?_
          refine g_get (v := zI (H15 x14 1)) zp133 rfl rfl (zW_sh fx14) ⟨rfl, by decide, (zW_ge fx14)⟩ (congrArg (ztag _) (zM_no (zW_ge fx14) (zW_fx fx14 1 (by decide)))) ?_
          refine g_al zp133 rfl rfl rfl (Int.le_trans (by decide) (zW_ge fx16)) ?_
          refine g_get (v := zI (H15 x16 1)) zp133 rfl rfl (zW_sh fx16) ⟨rfl, by decide, (zW_ge fx16)⟩ (congrArg (ztag _) (zM_no (zW_ge fx16) (zW_fx fx16 1 (by decide)))) ?_
          refine g_mmin zp133 rfl rfl (Nat.le_of_ble_eq_true rfl) ?_
          refine g_is (ls' := [zR 32, zI l1, zI l2, zI l3, zR x14, zR x16, zI (if H15 x16 1 < H15 x14 1 then H15 x16 1 else H15 x14 1)]) zp133 rfl rfl (Nat.le_of_ble_eq_true rfl) rfl ?_
          refine g_il zp133 rfl rfl rfl ?_
          rcases Classical.em (l3 < 0 ∨ 3 ≤ l3) with c | c
          · refine g_tabO zp133 rfl c ?_
            replace h := h.1 c
            refine g_al zp133 rfl rfl rfl (by decide) ?_
            refine g_il zp133 rfl rfl rfl ?_
            refine g_ic zp133 rfl rfl ?_
            refine g_ar (r := w32 ((if H15 x16 1 < H15 x14 1 then H15 x16 1 else H15 x14 1) - 1)) zp133 rfl rfl rfl ?_
            refine g_callI (as := [zR 32, zI (w32 ((if H15 x16 1 < H15 x14 1 then H15 x16 1 else H15 x14 1) - 1))]) (rest := []) zp133 rfl rfl (Nat.succ_pos _) rfl rfl (Nat.le_of_ble_eq_true rfl) (Nat.le_of_ble_eq_true rfl) rfl rfl h (fun x18 H17 h => ?_)
            exact g_ret zp133 rfl rfl ⟨_, rfl, h⟩
          · replace h := h.2
            have hh : l3 = 0 ∨ l3 = 1 ∨ l3 = 2 := by omega
            rcases hh with c | c | c
            · replace h := h.1 c
              refine g_tabE (z := 0) zp133 rfl c (by decide) rfl ?_
              refine g_al zp133 rfl rfl rfl (by decide) ?_
              refine g_al zp133 rfl rfl rfl (Int.le_trans (by decide) (zW_ge fx14)) ?_
              refine g_al zp133 rfl rfl rfl (Int.le_trans (by decide) (zW_ge fx16)) ?_
              refine g_callI (as := [zR x14, zR x16]) (rest := [zR 32]) zp133 rfl rfl (Nat.succ_pos _) rfl rfl (Nat.le_of_ble_eq_true rfl) (Nat.le_of_ble_eq_true rfl) (zrecv_of (zW_sh fx14) rfl) rfl h (fun x20 H19 h => ?_)
              refine g_callI (as := [zR 32, zI x20]) (rest := []) zp133 rfl rfl (Nat.succ_pos _) rfl rfl (Nat.le_of_ble_eq_true rfl) (Nat.le_of_ble_eq_true rfl) rfl rfl h (fun x22 H21 h => ?_)
              exact g_ret zp133 rfl rfl ⟨_, rfl, h⟩
            · replace h := h.2.1 c
              refine g_tabE (z := 1) zp133 rfl c (by decide) rfl ?_
              refine g_al zp133 rfl rfl rfl (by decide) ?_
              refine g_al zp133 rfl rfl rfl (Int.le_trans (by decide) (zW_ge fx16)) ?_
              refine g_al zp133 rfl rfl rfl (Int.le_trans (by decide) (zW_ge fx14)) ?_
              refine g_callI (as := [zR x16, zR x14]) (rest := [zR 32]) zp133 rfl rfl (Nat.succ_pos _) rfl rfl (Nat.le_of_ble_eq_true rfl) (Nat.le_of_ble_eq_true rfl) (zrecv_of (zW_sh fx16) rfl) rfl h (fun x24 H23 h => ?_)
              refine g_callI (as := [zR 32, zI x24]) (rest := []) zp133 rfl rfl (Nat.succ_pos _) rfl rfl (Nat.le_of_ble_eq_true rfl) (Nat.le_of_ble_eq_true rfl) rfl rfl h (fun x26 H25 h => ?_)
              exact g_ret zp133 rfl rfl ⟨_, rfl, h⟩
            · replace h := h.2.2 c
              refine g_tabE (z := 2) zp133 rfl c (by decide) rfl ?_
              refine g_al zp133 rfl rfl rfl (by decide) ?_
              refine g_al zp133 rfl rfl rfl (Int.le_trans (by decide) (zW_ge fx14)) ?_
              refine g_al zp133 rfl rfl rfl (Int.le_trans (by decide) (zW_ge fx16)) ?_
              refine g_callI (as := [zR x14, zR x16]) (rest := [zR 32]) zp133 rfl rfl (Nat.succ_pos _) rfl rfl (Nat.le_of_ble_eq_true rfl) (Nat.le_of_ble_eq_true rfl) (zrecv_of (zW_sh fx14) rfl) rfl h (fun x28 H27 h => ?_)
              refine g_callI (as := [zR 32, zI x28]) (rest := []) zp133 rfl rfl (Nat.succ_pos _) rfl rfl (Nat.le_of_ble_eq_true rfl) (Nat.le_of_ble_eq_true rfl) rfl rfl h (fun x30 H29 h => ?_)
              exact g_ret zp133 rfl rfl ⟨_, rfl, h⟩
        · replace h := h.2 c12
          refine g_al zp133 rfl rfl rfl (by decide) ?_
          refine g_ic zp133 rfl rfl ?_
          refine g_callI (as := [zR 32, zI 4]) (rest := []) zp133 rfl rfl (Nat.succ_pos _) rfl rfl (Nat.le_of_ble_eq_true rfl) (Nat.le_of_ble_eq_true rfl) rfl rfl h (fun x32 H31 h => ?_)
          exact g_ret zp133 rfl rfl ⟨_, rfl, h⟩
      · replace h := h.2 c11
        refine g_al zp133 rfl rfl rfl (by decide) ?_
        refine g_ic zp133 rfl rfl ?_
        refine g_callI (as := [zR 32, zI 2]) (rest := []) zp133 rfl rfl (Nat.succ_pos _) rfl rfl (Nat.le_of_ble_eq_true rfl) (Nat.le_of_ble_eq_true rfl) rfl rfl h (fun x34 H33 h => ?_)
        exact g_ret zp133 rfl rfl ⟨_, rfl, h⟩
  · replace h := h.2 c3
    refine g_al zp133 rfl rfl rfl (by decide) ?_
    refine g_ic zp133 rfl rfl ?_
    refine g_callI (as := [zR 32, zI 1]) (rest := []) zp133 rfl rfl (Nat.succ_pos _) rfl rfl (Nat.le_of_ble_eq_true rfl) (Nat.le_of_ble_eq_true rfl) rfl rfl h (fun x36 H35 h => ?_)
    exact g_ret zp133 rfl rfl ⟨_, rfl, h⟩
theorem zp134 : zprog.getD 134 [] = zk134 := rfl
theorem x134_0 {w : zWt} {d : Nat} {H : zHt} {K : Int → zHt → Prop} {l0 : Int} (hl0 : zisW l0) {l1 : Int} (hl1 : zisW l1)
    (h : zgo w d 134 4 [zR l0, zR l1, zI 0, zI 0] [] H (zQI K)) :
    zclI w d 134 [zR l0, zR l1] H K := by
  show zgo w d 134 0 [zR l0, zR l1, zJ, zJ] [] H (zQI K)
  refine g_ic zp134 rfl rfl ?_
  refine g_is (ls' := [zR l0, zR l1, zI 0, zJ]) zp134 rfl rfl (Nat.le_of_ble_eq_true rfl) rfl ?_
  refine g_ic zp134 rfl rfl ?_
  refine g_is (ls' := [zR l0, zR l1, zI 0, zI 0]) zp134 rfl rfl (Nat.le_of_ble_eq_true rfl) rfl ?_
  exact g_weak (ls' := [zR l0, zR l1, zI 0, zI 0]) ⟨Or.inr rfl, Or.inr rfl, Or.inr rfl, Or.inr rfl, trivial⟩ h
theorem x134_4 {w : zWt} {d : Nat} {H : zHt} {K : Int → zHt → Prop} {l0 : Int} (hl0 : zisW l0) {l1 : Int} (hl1 : zisW l1) {l2 : Int} {l3 : Int}
    (h : ((H l0 1) ≤ l3 → K l2 H) ∧ (l3 < (H l0 1) → ((H l1 1) ≤ l3 → K l2 H) ∧ (l3 < (H l1 1) → (0 ≤ l3 ∧ l3 < 101) ∧ ((H (l0 + 1) l3) ≤ (H (l1 + 1) l3) → zgo w d 134 4 [zR l0, zR l1, zI (w32 (l2 + 0)), zI (w32 (l3 + 1))] [] H (zQI K)) ∧ ((H (l1 + 1) l3) < (H (l0 + 1) l3) → zgo w d 134 4 [zR l0, zR l1, zI (w32 (l2 + 1)), zI (w32 (l3 + 1))] [] H (zQI K))))) :
    zgo w d 134 4 [zR l0, zR l1, zI l2, zI l3] [] H (zQI K) := by
  refine g_il zp134 rfl rfl rfl ?_
  refine g_al zp134 rfl rfl rfl (Int.le_trans (by decide) (zW_ge hl0)) ?_
  refine g_get (v := zI (H l0 1)) zp134 rfl rfl (zW_sh hl0) ⟨rfl, by decide, (zW_ge hl0)⟩ (congrArg (ztag _) (zM_no (zW_ge hl0) (zW_fx hl0 1 (by decide)))) ?_
  refine g_icmp zp134 rfl rfl zc3 (fun c1 => ?_) (fun c1 => ?_)
  · replace h := h.1 c1
    refine g_il zp134 rfl rfl rfl ?_
    exact g_ret zp134 rfl rfl ⟨_, rfl, h⟩
  · replace h := h.2 c1
    refine g_il zp134 rfl rfl rfl ?_
    refine g_al zp134 rfl rfl rfl (Int.le_trans (by decide) (zW_ge hl1)) ?_
    refine g_get (v := zI (H l1 1)) zp134 rfl rfl (zW_sh hl1) ⟨rfl, by decide, (zW_ge hl1)⟩ (congrArg (ztag _) (zM_no (zW_ge hl1) (zW_fx hl1 1 (by decide)))) ?_
    refine g_icmp zp134 rfl rfl zc3 (fun c2 => ?_) (fun c2 => ?_)
    · replace h := h.1 c2
      refine g_il zp134 rfl rfl rfl ?_
      exact g_ret zp134 rfl rfl ⟨_, rfl, h⟩
    · replace h := h.2 c2
      refine g_il zp134 rfl rfl rfl ?_
      refine g_al zp134 rfl rfl rfl (Int.le_trans (by decide) (zW_ge hl0)) ?_
      refine g_get (v := zR (l0 + 1)) zp134 rfl rfl (zW_sh hl0) ⟨rfl, by decide, (zW_ge hl0)⟩ (congrArg (ztag _) (zW_f0 hl0)) ?_
      refine g_il zp134 rfl rfl rfl ?_
      obtain ⟨c3, h⟩ := h
      refine g_ald (v := zI (H (l0 + 1) l3)) zp134 rfl rfl (zW_sh1 hl0) rfl c3 (congrArg (ztag _) (zM_no (zW_ge1 hl0) (zW_fx1 hl0 _))) ?_
      refine g_al zp134 rfl rfl rfl (Int.le_trans (by decide) (zW_ge hl1)) ?_
      refine g_get (v := zR (l1 + 1)) zp134 rfl rfl (zW_sh hl1) ⟨rfl, by decide, (zW_ge hl1)⟩ (congrArg (ztag _) (zW_f0 hl1)) ?_
      refine g_il zp134 rfl rfl rfl ?_
      refine g_ald (v := zI (H (l1 + 1) l3)) zp134 rfl rfl (zW_sh1 hl1) rfl c3 (congrArg (ztag _) (zM_no (zW_ge1 hl1) (zW_fx1 hl1 _))) ?_
      refine g_icmp zp134 rfl rfl zc5 (fun c4 => ?_) (fun c4 => ?_)
      · replace h := h.1 c4
        refine g_ic zp134 rfl rfl ?_
        refine g_ar (r := w32 (l2 + 0)) zp134 rfl rfl rfl ?_
        refine g_is (ls' := [zR l0, zR l1, zI (w32 (l2 + 0)), zI l3]) zp134 rfl rfl (Nat.le_of_ble_eq_true rfl) rfl ?_
        refine g_inc (ls' := [zR l0, zR l1, zI (w32 (l2 + 0)), zI (w32 (l3 + 1))]) zp134 rfl rfl rfl rfl ?_
        refine g_goto zp134 rfl ?_
        exact g_weak (ls' := [zR l0, zR l1, zI (w32 (l2 + 0)), zI (w32 (l3 + 1))]) ⟨Or.inr rfl, Or.inr rfl, Or.inr rfl, Or.inr rfl, trivial⟩ h
      · replace h := h.2 c4
        refine g_ic zp134 rfl rfl ?_
        refine g_goto zp134 rfl ?_
        refine g_ar (r := w32 (l2 + 1)) zp134 rfl rfl rfl ?_
        refine g_is (ls' := [zR l0, zR l1, zI (w32 (l2 + 1)), zI l3]) zp134 rfl rfl (Nat.le_of_ble_eq_true rfl) rfl ?_
        refine g_inc (ls' := [zR l0, zR l1, zI (w32 (l2 + 1)), zI (w32 (l3 + 1))]) zp134 rfl rfl rfl rfl ?_
        refine g_goto zp134 rfl ?_
        exact g_weak (ls' := [zR l0, zR l1, zI (w32 (l2 + 1)), zI (w32 (l3 + 1))]) ⟨Or.inr rfl, Or.inr rfl, Or.inr rfl, Or.inr rfl, trivial⟩ h
theorem zp135 : zprog.getD 135 [] = zk135 := rfl
theorem x135_0 {w : zWt} {d : Nat} {H : zHt} {K : Int → zHt → Prop} {l0 : Int} (hl0 : zisW l0) {l1 : Int} (hl1 : zisW l1)
    (h : zgo w (d + 1) 135 7 [zR l0, zR l1, zI 0, zI 0, zI 0, zJ] [] H (zQI K)) :
    zclI w (d + 1) 135 [zR l0, zR l1] H K := by
  show zgo w (d + 1) 135 0 [zR l0, zR l1, zJ, zJ, zJ, zJ] [] H (zQI K)
  refine g_ic zp135 rfl rfl ?_
  refine g_is (ls' := [zR l0, zR l1, zI 0, zJ, zJ, zJ]) zp135 rfl rfl (Nat.le_of_ble_eq_true rfl) rfl ?_
  refine g_ic zp135 rfl rfl ?_
  refine g_is (ls' := [zR l0, zR l1, zI 0, zI 0, zJ, zJ]) zp135 rfl rfl (Nat.le_of_ble_eq_true rfl) rfl ?_
  refine g_ic zp135 rfl rfl ?_
  refine g_is (ls' := [zR l0, zR l1, zI 0, zI 0, zI 0, zJ]) zp135 rfl rfl (Nat.le_of_ble_eq_true rfl) rfl ?_
  exact g_weak (ls' := [zR l0, zR l1, zI 0, zI 0, zI 0, zJ]) ⟨Or.inr rfl, Or.inr rfl, Or.inr rfl, Or.inr rfl, Or.inr rfl, Or.inr rfl, trivial⟩ h
theorem x135_7 {w : zWt} {d : Nat} {H : zHt} {K : Int → zHt → Prop} {l0 : Int} (hl0 : zisW l0) {l1 : Int} (hl1 : zisW l1) {l2 : Int} {l3 : Int} {l4 : Int}
    (h : ((H l0 1) ≤ l4 → K l2 H) ∧ (l4 < (H l0 1) → ((H l1 1) ≤ l4 → K l2 H) ∧ (l4 < (H l1 1) → (0 ≤ l4 ∧ l4 < 101) ∧ zclI w d 136 [zI (H (l0 + 1) l4), zI (H (l1 + 1) l4)] H (fun x5 H4 => (¬ x5 = 0 → (l3 = 0 → zgo w (d + 1) 135 7 [zR l0, zR l1, zI (w32 (l2 + 0)), zI x5, zI (w32 (l4 + 1)), zJ] [] H4 (zQI K)) ∧ (¬ l3 = 0 → (x5 ≤ 0 → zgo w (d + 1) 135 67 [zR l0, zR l1, zJ, zI l3, zI l4, zI x5] [zI 0, zI l2] H4 (zQI K)) ∧ (0 < x5 → zgo w (d + 1) 135 67 [zR l0, zR l1, zJ, zI l3, zI l4, zI x5] [zI 1, zI l2] H4 (zQI K)))) ∧ (x5 = 0 → zgo w (d + 1) 135 7 [zR l0, zR l1, zI l2, zI l3, zI (w32 (l4 + 1)), zJ] [] H4 (zQI K)))))) :
    zgo w (d + 1) 135 7 [zR l0, zR l1, zI l2, zI l3, zI l4, zJ] [] H (zQI K) := by
  refine g_il zp135 rfl rfl rfl ?_
  refine g_al zp135 rfl rfl rfl (Int.le_trans (by decide) (zW_ge hl0)) ?_
  refine g_get (v := zI (H l0 1)) zp135 rfl rfl (zW_sh hl0) ⟨rfl, by decide, (zW_ge hl0)⟩ (congrArg (ztag _) (zM_no (zW_ge hl0) (zW_fx hl0 1 (by decide)))) ?_
  refine g_icmp zp135 rfl rfl zc3 (fun c1 => ?_) (fun c1 => ?_)
  · replace h := h.1 c1
    refine g_il zp135 rfl rfl rfl ?_
    exact g_ret zp135 rfl rfl ⟨_, rfl, h⟩
  · replace h := h.2 c1
    refine g_il zp135 rfl rfl rfl ?_
    refine g_al zp135 rfl rfl rfl (Int.le_trans (by decide) (zW_ge hl1)) ?_
    refine g_get (v := zI (H l1 1)) zp135 rfl rfl (zW_sh hl1) ⟨rfl, by decide, (zW_ge hl1)⟩ (congrArg (ztag _) (zM_no (zW_ge hl1) (zW_fx hl1 1 (by decide)))) ?_
    refine g_icmp zp135 rfl rfl zc3 (fun c2 => ?_) (fun c2 => ?_)
    · replace h := h.1 c2
      refine g_il zp135 rfl rfl rfl ?_
      exact g_ret zp135 rfl rfl ⟨_, rfl, h⟩
    · replace h := h.2 c2
      refine g_al zp135 rfl rfl rfl (Int.le_trans (by decide) (zW_ge hl0)) ?_
      refine g_get (v := zR (l0 + 1)) zp135 rfl rfl (zW_sh hl0) ⟨rfl, by decide, (zW_ge hl0)⟩ (congrArg (ztag _) (zW_f0 hl0)) ?_
      refine g_il zp135 rfl rfl rfl ?_
      obtain ⟨c3, h⟩ := h
      refine g_ald (v := zI (H (l0 + 1) l4)) zp135 rfl rfl (zW_sh1 hl0) rfl c3 (congrArg (ztag _) (zM_no (zW_ge1 hl0) (zW_fx1 hl0 _))) ?_
      refine g_al zp135 rfl rfl rfl (Int.le_trans (by decide) (zW_ge hl1)) ?_
      refine g_get (v := zR (l1 + 1)) zp135 rfl rfl (zW_sh hl1) ⟨rfl, by decide, (zW_ge hl1)⟩ (congrArg (ztag _) (zW_f0 hl1)) ?_
      refine g_il zp135 rfl rfl rfl ?_
      refine g_ald (v := zI (H (l1 + 1) l4)) zp135 rfl rfl (zW_sh1 hl1) rfl c3 (congrArg (ztag _) (zM_no (zW_ge1 hl1) (zW_fx1 hl1 _))) ?_
      refine g_callI (as := [zI (H (l0 + 1) l4), zI (H (l1 + 1) l4)]) (rest := []) zp135 rfl rfl (Nat.succ_pos _) rfl rfl (Nat.le_of_ble_eq_true rfl) (Nat.le_of_ble_eq_true rfl) rfl rfl h (fun x5 H4 h => ?_)
      refine g_is (ls' := [zR l0, zR l1, zI l2, zI l3, zI l4, zI x5]) zp135 rfl rfl (Nat.le_of_ble_eq_true rfl) rfl ?_
      refine g_il zp135 rfl rfl rfl ?_
      refine g_if zp135 rfl rfl zc1 (fun c6 => ?_) (fun c6 => ?_)
      · replace h := h.1 c6
        refine g_il zp135 rfl rfl rfl ?_
        refine g_il zp135 rfl rfl rfl ?_
        refine g_if zp135 rfl rfl zc0 (fun c7 => ?_) (fun c7 => ?_)
        · replace h := h.1 c7
          refine g_ic zp135 rfl rfl ?_
          refine g_ar (r := w32 (l2 + 0)) zp135 rfl rfl rfl ?_
          refine g_is (ls' := [zR l0, zR l1, zI (w32 (l2 + 0)), zI l3, zI l4, zI x5]) zp135 rfl rfl (Nat.le_of_ble_eq_true rfl) rfl ?_
          refine g_il zp135 rfl rfl rfl ?_
          refine g_is (ls' := [zR l0, zR l1, zI (w32 (l2 + 0)), zI x5, zI l4, zI x5]) zp135 rfl rfl (Nat.le_of_ble_eq_true rfl) rfl ?_
          refine g_inc (ls' := [zR l0, zR l1, zI (w32 (l2 + 0)), zI x5, zI (w32 (l4 + 1)), zI x5]) zp135 rfl rfl rfl rfl ?_
          refine g_goto zp135 rfl ?_
          exact g_weak (ls' := [zR l0, zR l1, zI (w32 (l2 + 0)), zI x5, zI (w32 (l4 + 1)), zJ]) ⟨Or.inr rfl, Or.inr rfl, Or.inr rfl, Or.inr rfl, Or.inr rfl, Or.inl rfl, trivial⟩ h
        · replace h := h.2 c7
          refine g_il zp135 rfl rfl rfl ?_
          refine g_if zp135 rfl rfl zc5 (fun c8 => ?_) (fun c8 => ?_)
          · replace h := h.1 c8
            refine g_ic zp135 rfl rfl ?_
            exact g_weak (ls' := [zR l0, zR l1, zJ, zI l3, zI l4, zI x5]) ⟨Or.inr rfl, Or.inr rfl, Or.inl rfl, Or.inr rfl, Or.inr rfl, Or.inr rfl, trivial⟩ h
          · replace h := h.2 c8
            refine g_ic zp135 rfl rfl ?_
            refine g_goto zp135 rfl ?_
            exact g_weak (ls' := [zR l0, zR l1, zJ, zI l3, zI l4, zI x5]) ⟨Or.inr rfl, Or.inr rfl, Or.inl rfl, Or.inr rfl, Or.inr rfl, Or.inr rfl, trivial⟩ h
      · replace h := h.2 c6
        refine g_goto zp135 rfl ?_
        refine g_inc (ls' := [zR l0, zR l1, zI l2, zI l3, zI (w32 (l4 + 1)), zI x5]) zp135 rfl rfl rfl rfl ?_
        refine g_goto zp135 rfl ?_
        exact g_weak (ls' := [zR l0, zR l1, zI l2, zI l3, zI (w32 (l4 + 1)), zJ]) ⟨Or.inr rfl, Or.inr rfl, Or.inr rfl, Or.inr rfl, Or.inr rfl, Or.inl rfl, trivial⟩ h
theorem x135_67 {w : zWt} {d : Nat} {H : zHt} {K : Int → zHt → Prop} {l0 : Int} (hl0 : zisW l0) {l1 : Int} (hl1 : zisW l1) {l3 : Int} {l4 : Int} {l5 : Int} {s0 : Int} {s1 : Int}
    (h : (l3 ≤ 0 → (s1 = 0 → zgo w (d + 1) 135 7 [zR l0, zR l1, zI (w32 (s0 + 0)), zI l5, zI (w32 (l4 + 1)), zJ] [] H (zQI K)) ∧ (¬ s1 = 0 → zgo w (d + 1) 135 7 [zR l0, zR l1, zI (w32 (s0 + 1)), zI l5, zI (w32 (l4 + 1)), zJ] [] H (zQI K))) ∧ (0 < l3 → (s1 = 1 → zgo w (d + 1) 135 7 [zR l0, zR l1, zI (w32 (s0 + 0)), zI l5, zI (w32 (l4 + 1)), zJ] [] H (zQI K)) ∧ (¬ s1 = 1 → zgo w (d + 1) 135 7 [zR l0, zR l1, zI (w32 (s0 + 1)), zI l5, zI (w32 (l4 + 1)), zJ] [] H (zQI K)))) :
    zgo w (d + 1) 135 67 [zR l0, zR l1, zJ, zI l3, zI l4, zI l5] [zI s1, zI s0] H (zQI K) := by
  refine g_il zp135 rfl rfl rfl ?_
  refine g_if zp135 rfl rfl zc5 (fun c1 => ?_) (fun c1 => ?_)
  · replace h := h.1 c1
    refine g_ic zp135 rfl rfl ?_
    refine g_icmp zp135 rfl rfl zc0 (fun c2 => ?_) (fun c2 => ?_)
    · replace h := h.1 c2
      refine g_ic zp135 rfl rfl ?_
      refine g_ar (r := w32 (s0 + 0)) zp135 rfl rfl rfl ?_
      refine g_is (ls' := [zR l0, zR l1, zI (w32 (s0 + 0)), zI l3, zI l4, zI l5]) zp135 rfl rfl (Nat.le_of_ble_eq_true rfl) rfl ?_
      refine g_il zp135 rfl rfl rfl ?_
      refine g_is (ls' := [zR l0, zR l1, zI (w32 (s0 + 0)), zI l5, zI l4, zI l5]) zp135 rfl rfl (Nat.le_of_ble_eq_true rfl) rfl ?_
      refine g_inc (ls' := [zR l0, zR l1, zI (w32 (s0 + 0)), zI l5, zI (w32 (l4 + 1)), zI l5]) zp135 rfl rfl rfl rfl ?_
      refine g_goto zp135 rfl ?_
      exact g_weak (ls' := [zR l0, zR l1, zI (w32 (s0 + 0)), zI l5, zI (w32 (l4 + 1)), zJ]) ⟨Or.inr rfl, Or.inr rfl, Or.inr rfl, Or.inr rfl, Or.inr rfl, Or.inl rfl, trivial⟩ h
    · replace h := h.2 c2
      refine g_ic zp135 rfl rfl ?_
      refine g_goto zp135 rfl ?_
      refine g_ar (r := w32 (s0 + 1)) zp135 rfl rfl rfl ?_
      refine g_is (ls' := [zR l0, zR l1, zI (w32 (s0 + 1)), zI l3, zI l4, zI l5]) zp135 rfl rfl (Nat.le_of_ble_eq_true rfl) rfl ?_
      refine g_il zp135 rfl rfl rfl ?_
      refine g_is (ls' := [zR l0, zR l1, zI (w32 (s0 + 1)), zI l5, zI l4, zI l5]) zp135 rfl rfl (Nat.le_of_ble_eq_true rfl) rfl ?_
      refine g_inc (ls' := [zR l0, zR l1, zI (w32 (s0 + 1)), zI l5, zI (w32 (l4 + 1)), zI l5]) zp135 rfl rfl rfl rfl ?_
      refine g_goto zp135 rfl ?_
      exact g_weak (ls' := [zR l0, zR l1, zI (w32 (s0 + 1)), zI l5, zI (w32 (l4 + 1)), zJ]) ⟨Or.inr rfl, Or.inr rfl, Or.inr rfl, Or.inr rfl, Or.inr rfl, Or.inl rfl, trivial⟩ h
  · replace h := h.2 c1
    refine g_ic zp135 rfl rfl ?_
    refine g_goto zp135 rfl ?_
    refine g_icmp zp135 rfl rfl zc0 (fun c3 => ?_) (fun c3 => ?_)
    · replace h := h.1 c3
      refine g_ic zp135 rfl rfl ?_
      refine g_ar (r := w32 (s0 + 0)) zp135 rfl rfl rfl ?_
      refine g_is (ls' := [zR l0, zR l1, zI (w32 (s0 + 0)), zI l3, zI l4, zI l5]) zp135 rfl rfl (Nat.le_of_ble_eq_true rfl) rfl ?_
      refine g_il zp135 rfl rfl rfl ?_
      refine g_is (ls' := [zR l0, zR l1, zI (w32 (s0 + 0)), zI l5, zI l4, zI l5]) zp135 rfl rfl (Nat.le_of_ble_eq_true rfl) rfl ?_
      refine g_inc (ls' := [zR l0, zR l1, zI (w32 (s0 + 0)), zI l5, zI (w32 (l4 + 1)), zI l5]) zp135 rfl rfl rfl rfl ?_
      refine g_goto zp135 rfl ?_
      exact g_weak (ls' := [zR l0, zR l1, zI (w32 (s0 + 0)), zI l5, zI (w32 (l4 + 1)), zJ]) ⟨Or.inr rfl, Or.inr rfl, Or.inr rfl, Or.inr rfl, Or.inr rfl, Or.inl rfl, trivial⟩ h
    · replace h := h.2 c3
      refine g_ic zp135 rfl rfl ?_
      refine g_goto zp135 rfl ?_
      refine g_ar (r := w32 (s0 + 1)) zp135 rfl rfl rfl ?_
      refine g_is (ls' := [zR l0, zR l1, zI (w32 (s0 + 1)), zI l3, zI l4, zI l5]) zp135 rfl rfl (Nat.le_of_ble_eq_true rfl) rfl ?_
      refine g_il zp135 rfl rfl rfl ?_
      refine g_is (ls' := [zR l0, zR l1, zI (w32 (s0 + 1)), zI l5, zI l4, zI l5]) zp135 rfl rfl (Nat.le_of_ble_eq_true rfl) rfl ?_
      refine g_inc (ls' := [zR l0, zR l1, zI (w32 (s0 + 1)), zI l5, zI (w32 (l4 + 1)), zI l5]) zp135 rfl rfl rfl rfl ?_
      refine g_goto zp135 rfl ?_
      exact g_weak (ls' := [zR l0, zR l1, zI (w32 (s0 + 1)), zI l5, zI (w32 (l4 + 1)), zJ]) ⟨Or.inr rfl, Or.inr rfl, Or.inr rfl, Or.inr rfl, Or.inr rfl, Or.inl rfl, trivial⟩ h
theorem zp136 : zprog.getD 136 [] = zk136 := rfl
theorem x136_0 {w : zWt} {d : Nat} {H : zHt} {K : Int → zHt → Prop} {l0 : Int} {l1 : Int}
    (h : (l1 ≤ l0 → (¬ l0 = l1 → K 1 H) ∧ (l0 = l1 → K 0 H)) ∧ (l0 < l1 → K (-1) H)) :
    zclI w d 136 [zI l0, zI l1] H K := by
  show zgo w d 136 0 [zI l0, zI l1] [] H (zQI K)
  refine g_il zp136 rfl rfl rfl ?_
  refine g_il zp136 rfl rfl rfl ?_
  refine g_icmp zp136 rfl rfl zc3 (fun c1 => ?_) (fun c1 => ?_)
  · replace h := h.1 c1
    refine g_il zp136 rfl rfl rfl ?_
    refine g_il zp136 rfl rfl rfl ?_
    refine g_icmp zp136 rfl rfl zc1 (fun c2 => ?_) (fun c2 => ?_)
    · replace h := h.1 c2
      refine g_ic zp136 rfl rfl ?_
      exact g_ret zp136 rfl rfl ⟨_, rfl, h⟩
    · replace h := h.2 c2
      refine g_ic zp136 rfl rfl ?_
      refine g_goto zp136 rfl ?_
      exact g_ret zp136 rfl rfl ⟨_, rfl, h⟩
  · replace h := h.2 c1
    refine g_ic zp136 rfl rfl ?_
    refine g_goto zp136 rfl ?_
    exact g_ret zp136 rfl rfl ⟨_, rfl, h⟩
theorem zp137 : zprog.getD 137 [] = zk137 := rfl
theorem x137_0 {w : zWt} {d : Nat} {H : zHt} {K : Int → zHt → Prop} {l1 : Int} {l2 : Int} {l3 : Int}
    (h : zclI w d 44 [zI l3, zI 2] H (fun x2 H1 => (¬ x2 = 0 → zclI w d 106 [zR 32, zI l1] H1 (fun x5 H4 => (x5 = 0 → zclI w d 13 [zR 32, zI 2] H4 (fun x8 H7 => K x8 H7)) ∧ (¬ x5 = 0 → zclI w d 106 [zR 32, zI l2] H4 (fun x10 H9 => (¬ x10 = 0 → (¬ l1 = l2 → zclR w d 108 [zR 32, zI l1] H9 (fun x14 H13 => (zisW x14) ∧ zclR w d 108 [zR 32, zI l2] H13 (fun x16 H15 => (zisW x16) ∧ zgo w (d + 1) 137 64 [zR 32, zJ, zJ, zI l3, zR x14, zR x16, zI 0, zJ] [] H15 (zQI K)))) ∧ (l1 = l2 → zclI w d 13 [zR 32, zI 4] H9 (fun x18 H17 => K x18 H17))) ∧ (x10 = 0 → zclI w d 13 [zR 32, zI 2] H9 (fun x20 H19 => K x20 H19)))))) ∧ (x2 = 0 → zclI w d 13 [zR 32, zI 1] H1 (fun x22 H21 => K x22 H21)))) :
    zclI w (d + 1) 137 [zR 32, zI l1, zI l2, zI l3] H K := by
  show zgo w (d + 1) 137 0 [zR 32, zI l1, zI l2, zI l3, zJ, zJ, zJ, zJ] [] H (zQI K)
  refine g_il zp137 rfl rfl rfl ?_
  refine g_ic zp137 rfl rfl ?_
  refine g_callI (as := [zI l3, zI 2]) (rest := []) zp137 rfl rfl (Nat.succ_pos _) rfl rfl (Nat.le_of_ble_eq_true rfl) (Nat.le_of_ble_eq_true rfl) rfl rfl h (fun x2 H1 h => ?_)
  refine g_if zp137 rfl rfl zc1 (fun c3 => ?_) (fun c3 => ?_)
  · replace h := h.1 c3
    refine g_al zp137 rfl rfl rfl (by decide) ?_
    refine g_il zp137 rfl rfl rfl ?_
    refine g_callI (as := [zR 32, zI l1]) (rest := []) zp137 rfl rfl (Nat.succ_pos _) rfl rfl (Nat.le_of_ble_eq_true rfl) (Nat.le_of_ble_eq_true rfl) rfl rfl h (fun x5 H4 h => ?_)
    refine g_if zp137 rfl rfl zc0 (fun c6 => ?_) (fun c6 => ?_)
    · replace h := h.1 c6
      refine g_al zp137 rfl rfl rfl (by decide) ?_
      refine g_ic zp137 rfl rfl ?_
      refine g_callI (as := [zR 32, zI 2]) (rest := []) zp137 rfl rfl (Nat.succ_pos _) rfl rfl (Nat.le_of_ble_eq_true rfl) (Nat.le_of_ble_eq_true rfl) rfl rfl h (fun x8 H7 h => ?_)
      exact g_ret zp137 rfl rfl ⟨_, rfl, h⟩
    · replace h := h.2 c6
      refine g_al zp137 rfl rfl rfl (by decide) ?_
      refine g_il zp137 rfl rfl rfl ?_
      refine g_callI (as := [zR 32, zI l2]) (rest := []) zp137 rfl rfl (Nat.succ_pos _) rfl rfl (Nat.le_of_ble_eq_true rfl) (Nat.le_of_ble_eq_true rfl) rfl rfl h (fun x10 H9 h => ?_)
      refine g_if zp137 rfl rfl zc1 (fun c11 => ?_) (fun c11 => ?_)
      · replace h := h.1 c11
        refine g_il zp137 rfl rfl rfl ?_
        refine g_il zp137 rfl rfl rfl ?_
        refine g_icmp zp137 rfl rfl zc1 (fun c12 => ?_) (fun c12 => ?_)
        · replace h := h.1 c12
          refine g_al zp137 rfl rfl rfl (by decide) ?_
          refine g_il zp137 rfl rfl rfl ?_
          refine g_callR (as := [zR 32, zI l1]) (rest := []) zp137 rfl rfl (Nat.succ_pos _) rfl rfl (Nat.le_of_ble_eq_true rfl) (Nat.le_of_ble_eq_true rfl) rfl rfl h (fun x14 H13 h => ?_)
          obtain ⟨fx14, h⟩ := h
          refine g_as (ls' := [zR 32, zI l1, zI l2, zI l3, zR x14, zJ, zJ, zJ]) zp137 rfl rfl (Nat.le_of_ble_eq_true rfl) (Int.le_trans (by decide) (zW_ge fx14)) rfl ?_
          refine g_al zp137 rfl rfl rfl (by decide) ?_
          refine g_il zp137 rfl rfl rfl ?_
          refine g_callR (as := [zR 32, zI l2]) (rest := []) zp137 rfl rfl (Nat.succ_pos _) rfl rfl (Nat.le_of_ble_eq_true rfl) (Nat.le_of_ble_eq_true rfl) rfl rfl h (fun x16 H15 h => ?_)
          obtain ⟨fx16, h⟩ := h
          refine g_as (ls' := [zR 32, zI l1, zI l2, zI l3, zR x14, zR x16, zJ, zJ]) zp137 rfl rfl (Nat.le_of_ble_eq_true rfl) (Int.le_trans (by decide) (zW_ge fx16)) rfl ?_
          refine g_ic zp137 rfl rfl ?_
          refine g_is (ls' := [zR 32, zI l1, zI l2, zI l3, zR x14, zR x16, zI 0, zJ]) zp137 rfl rfl (Nat.le_of_ble_eq_true rfl) rfl ?_
          exact g_weak (ls' := [zR 32, zJ, zJ, zI l3, zR x14, zR x16, zI 0, zJ]) ⟨Or.inr rfl, Or.inl rfl, Or.inl rfl, Or.inr rfl, Or.inr rfl, Or.inr rfl, Or.inr rfl, Or.inr rfl, trivial⟩ h
        · replace h := h.2 c12
          refine g_al zp137 rfl rfl rfl (by decide) ?_
          refine g_ic zp137 rfl rfl ?_
          refine g_callI (as := [zR 32, zI 4]) (rest := []) zp137 rfl rfl (Nat.succ_pos _) rfl rfl (Nat.le_of_ble_eq_true rfl) (Nat.le_of_ble_eq_true rfl) rfl rfl h (fun x18 H17 h => ?_)
          exact g_ret zp137 rfl rfl ⟨_, rfl, h⟩
      · replace h := h.2 c11
        refine g_al zp137 rfl rfl rfl (by decide) ?_
        refine g_ic zp137 rfl rfl ?_
        refine g_callI (as := [zR 32, zI 2]) (rest := []) zp137 rfl rfl (Nat.succ_pos _) rfl rfl (Nat.le_of_ble_eq_true rfl) (Nat.le_of_ble_eq_true rfl) rfl rfl h (fun x20 H19 h => ?_)
        exact g_ret zp137 rfl rfl ⟨_, rfl, h⟩
  · replace h := h.2 c3
    refine g_al zp137 rfl rfl rfl (by decide) ?_
    refine g_ic zp137 rfl rfl ?_
    refine g_callI (as := [zR 32, zI 1]) (rest := []) zp137 rfl rfl (Nat.succ_pos _) rfl rfl (Nat.le_of_ble_eq_true rfl) (Nat.le_of_ble_eq_true rfl) rfl rfl h (fun x22 H21 h => ?_)
    exact g_ret zp137 rfl rfl ⟨_, rfl, h⟩
theorem x137_64 {w : zWt} {d : Nat} {H : zHt} {K : Int → zHt → Prop} {l3 : Int} {l4 : Int} (hl4 : zisW l4) {l5 : Int} (hl5 : zisW l5) {l6 : Int}
    (h : ((H l4 1) ≤ l6 → zclI w d 13 [zR 32, zI 5] H (fun x3 H2 => K x3 H2)) ∧ (l6 < (H l4 1) → (0 ≤ l6 ∧ l6 < 101) ∧ zclI w d 110 [zR l5, zL (H (l4 + 1) l6)] H (fun x6 H5 => (x6 = (-1) → zgo w (d + 1) 137 64 [zR 32, zJ, zJ, zI l3, zR l4, zR l5, zI (w32 (l6 + 1)), zJ] [] H5 (zQI K)) ∧ (¬ x6 = (-1) → (¬ l3 = 0 → (¬ l3 = 1 → zclI w d 39 [zR 32, zI x6] H5 (fun x11 H10 => K x11 H10)) ∧ (l3 = 1 → zclI w d 39 [zR 32, zI l6] H5 (fun x13 H12 => K x13 H12))) ∧ (l3 = 0 → zclI w d 39 [zR 32, zI (H5 (l4 + 1) l6)] H5 (fun x15 H14 => K x15 H14)))))) :
    zgo w (d + 1) 137 64 [zR 32, zJ, zJ, zI l3, zR l4, zR l5, zI l6, zJ] [] H (zQI K) := by
  refine g_il zp137 rfl rfl rfl ?_
  refine g_al zp137 rfl rfl rfl (Int.le_trans (by decide) (zW_ge hl4)) ?_
  refine g_get (v := zI (H l4 1)) zp137 rfl rfl (zW_sh hl4) ⟨rfl, by decide, (zW_ge hl4)⟩ (congrArg (ztag _) (zM_no (zW_ge hl4) (zW_fx hl4 1 (by decide)))) ?_
  refine g_icmp zp137 rfl rfl zc3 (fun c1 => ?_) (fun c1 => ?_)
  · replace h := h.1 c1
    refine g_al zp137 rfl rfl rfl (by decide) ?_
    refine g_ic zp137 rfl rfl ?_
    refine g_callI (as := [zR 32, zI 5]) (rest := []) zp137 rfl rfl (Nat.succ_pos _) rfl rfl (Nat.le_of_ble_eq_true rfl) (Nat.le_of_ble_eq_true rfl) rfl rfl h (fun x3 H2 h => ?_)
    exact g_ret zp137 rfl rfl ⟨_, rfl, h⟩
  · replace h := h.2 c1
    refine g_al zp137 rfl rfl rfl (Int.le_trans (by decide) (zW_ge hl5)) ?_
    refine g_al zp137 rfl rfl rfl (Int.le_trans (by decide) (zW_ge hl4)) ?_
    refine g_get (v := zR (l4 + 1)) zp137 rfl rfl (zW_sh hl4) ⟨rfl, by decide, (zW_ge hl4)⟩ (congrArg (ztag _) (zW_f0 hl4)) ?_
    refine g_il zp137 rfl rfl rfl ?_
    obtain ⟨c4, h⟩ := h
    refine g_ald (v := zI (H (l4 + 1) l6)) zp137 rfl rfl (zW_sh1 hl4) rfl c4 (congrArg (ztag _) (zM_no (zW_ge1 hl4) (zW_fx1 hl4 _))) ?_
    refine g_i2l zp137 rfl rfl ?_
    refine g_callI (as := [zR l5, zL (H (l4 + 1) l6)]) (rest := []) zp137 rfl rfl (Nat.succ_pos _) rfl rfl (Nat.le_of_ble_eq_true rfl) (Nat.le_of_ble_eq_true rfl) (zrecv_of (zW_sh hl5) rfl) rfl h (fun x6 H5 h => ?_)
    refine g_is (ls' := [zR 32, zJ, zJ, zI l3, zR l4, zR l5, zI l6, zI x6]) zp137 rfl rfl (Nat.le_of_ble_eq_true rfl) rfl ?_
    refine g_il zp137 rfl rfl rfl ?_
    refine g_ic zp137 rfl rfl ?_
    refine g_icmp zp137 rfl rfl zc0 (fun c7 => ?_) (fun c7 => ?_)
    · replace h := h.1 c7
      refine g_inc (ls' := [zR 32, zJ, zJ, zI l3, zR l4, zR l5, zI (w32 (l6 + 1)), zI x6]) zp137 rfl rfl rfl rfl ?_
      refine g_goto zp137 rfl ?_
      exact g_weak (ls' := [zR 32, zJ, zJ, zI l3, zR l4, zR l5, zI (w32 (l6 + 1)), zJ]) ⟨Or.inr rfl, Or.inr rfl, Or.inr rfl, Or.inr rfl, Or.inr rfl, Or.inr rfl, Or.inr rfl, Or.inl rfl, trivial⟩ h
    · replace h := h.2 c7
      refine g_al zp137 rfl rfl rfl (by decide) ?_
      refine g_il zp137 rfl rfl rfl ?_
      refine g_if zp137 rfl rfl zc1 (fun c8 => ?_) (fun c8 => ?_)
      · replace h := h.1 c8
        refine g_il zp137 rfl rfl rfl ?_
        refine g_ic zp137 rfl rfl ?_
        refine g_icmp zp137 rfl rfl zc1 (fun c9 => ?_) (fun c9 => ?_)
        · replace h := h.1 c9
          refine g_il zp137 rfl rfl rfl ?_
          refine g_callI (as := [zR 32, zI x6]) (rest := []) zp137 rfl rfl (Nat.succ_pos _) rfl rfl (Nat.le_of_ble_eq_true rfl) (Nat.le_of_ble_eq_true rfl) rfl rfl h (fun x11 H10 h => ?_)
          exact g_ret zp137 rfl rfl ⟨_, rfl, h⟩
        · replace h := h.2 c9
          refine g_il zp137 rfl rfl rfl ?_
          refine g_goto zp137 rfl ?_
          refine g_callI (as := [zR 32, zI l6]) (rest := []) zp137 rfl rfl (Nat.succ_pos _) rfl rfl (Nat.le_of_ble_eq_true rfl) (Nat.le_of_ble_eq_true rfl) rfl rfl h (fun x13 H12 h => ?_)
          exact g_ret zp137 rfl rfl ⟨_, rfl, h⟩
      · replace h := h.2 c8
        refine g_al zp137 rfl rfl rfl (Int.le_trans (by decide) (zW_ge hl4)) ?_
        refine g_get (v := zR (l4 + 1)) zp137 rfl rfl (zW_sh hl4) ⟨rfl, by decide, (zW_ge hl4)⟩ (congrArg (ztag _) (zW_f0 hl4)) ?_
        refine g_il zp137 rfl rfl rfl ?_
        refine g_ald (v := zI (H5 (l4 + 1) l6)) zp137 rfl rfl (zW_sh1 hl4) rfl c4 (congrArg (ztag _) (zM_no (zW_ge1 hl4) (zW_fx1 hl4 _))) ?_
        refine g_goto zp137 rfl ?_
        refine g_callI (as := [zR 32, zI (H5 (l4 + 1) l6)]) (rest := []) zp137 rfl rfl (Nat.succ_pos _) rfl rfl (Nat.le_of_ble_eq_true rfl) (Nat.le_of_ble_eq_true rfl) rfl rfl h (fun x15 H14 h => ?_)
        exact g_ret zp137 rfl rfl ⟨_, rfl, h⟩
theorem zp138 : zprog.getD 138 [] = zk138 := rfl
theorem x138_0 {w : zWt} {d : Nat} {H : zHt} {K : Int → zHt → Prop} {l1 : Int}
    (h : zclI w d 106 [zR 32, zI l1] H (fun x2 H1 => (¬ x2 = 0 → zclR w d 108 [zR 32, zI l1] H1 (fun x5 H4 => (zisW x5) ∧ zgo w (d + 1) 138 25 [zR 32, zJ, zR x5, zI 0, zI 0, zJ, zJ] [] H4 (zQI K))) ∧ (x2 = 0 → zclI w d 13 [zR 32, zI 2] H1 (fun x7 H6 => K x7 H6)))) :
    zclI w (d + 1) 138 [zR 32, zI l1] H K := by
  show zgo w (d + 1) 138 0 [zR 32, zI l1, zJ, zJ, zJ, zJ, zJ] [] H (zQI K)
  refine g_al zp138 rfl rfl rfl (by decide) ?_
  refine g_il zp138 rfl rfl rfl ?_
  refine g_callI (as := [zR 32, zI l1]) (rest := []) zp138 rfl rfl (Nat.succ_pos _) rfl rfl (Nat.le_of_ble_eq_true rfl) (Nat.le_of_ble_eq_true rfl) rfl rfl h (fun x2 H1 h => ?_)
  refine g_if zp138 rfl rfl zc1 (fun c3 => ?_) (fun c3 => ?_)
  · replace h := h.1 c3
    refine g_al zp138 rfl rfl rfl (by decide) ?_
    refine g_il zp138 rfl rfl rfl ?_
    refine g_callR (as := [zR 32, zI l1]) (rest := []) zp138 rfl rfl (Nat.succ_pos _) rfl rfl (Nat.le_of_ble_eq_true rfl) (Nat.le_of_ble_eq_true rfl) rfl rfl h (fun x5 H4 h => ?_)
    obtain ⟨fx5, h⟩ := h
    refine g_as (ls' := [zR 32, zI l1, zR x5, zJ, zJ, zJ, zJ]) zp138 rfl rfl (Nat.le_of_ble_eq_true rfl) (Int.le_trans (by decide) (zW_ge fx5)) rfl ?_
    refine g_ic zp138 rfl rfl ?_
    refine g_is (ls' := [zR 32, zI l1, zR x5, zI 0, zJ, zJ, zJ]) zp138 rfl rfl (Nat.le_of_ble_eq_true rfl) rfl ?_
    refine g_ic zp138 rfl rfl ?_
    refine g_is (ls' := [zR 32, zI l1, zR x5, zI 0, zI 0, zJ, zJ]) zp138 rfl rfl (Nat.le_of_ble_eq_true rfl) rfl ?_
    exact g_weak (ls' := [zR 32, zJ, zR x5, zI 0, zI 0, zJ, zJ]) ⟨Or.inr rfl, Or.inl rfl, Or.inr rfl, Or.inr rfl, Or.inr rfl, Or.inr rfl, Or.inr rfl, trivial⟩ h
  · replace h := h.2 c3
    refine g_al zp138 rfl rfl rfl (by decide) ?_
    refine g_ic zp138 rfl rfl ?_
    refine g_callI (as := [zR 32, zI 2]) (rest := []) zp138 rfl rfl (Nat.succ_pos _) rfl rfl (Nat.le_of_ble_eq_true rfl) (Nat.le_of_ble_eq_true rfl) rfl rfl h (fun x7 H6 h => ?_)
    exact g_ret zp138 rfl rfl ⟨_, rfl, h⟩
theorem x138_25 {w : zWt} {d : Nat} {H : zHt} {K : Int → zHt → Prop} {l2 : Int} (hl2 : zisW l2) {l3 : Int} {l4 : Int}
    (h : ((H 40 1) ≤ l4 → zclI w d 39 [zR 32, zI l3] H (fun x3 H2 => K x3 H2)) ∧ (l4 < (H 40 1) → zclR w d 108 [zR 32, zI l4] H (fun x5 H4 => (zisW x5) ∧ (¬ (H4 x5 2) = (H4 l2 2) → zgo w (d + 1) 138 25 [zR 32, zJ, zR l2, zI (zor l3 0), zI (w32 (l4 + 1)), zJ, zJ] [] H4 (zQI K)) ∧ ((H4 x5 2) = (H4 l2 2) → (¬ (H4 l2 2) = 1 → zgo w (d + 1) 138 25 [zR 32, zJ, zR l2, zI (zor l3 (zshl 1 l4)), zI (w32 (l4 + 1)), zJ, zJ] [] H4 (zQI K)) ∧ ((H4 l2 2) = 1 → zclI w d 113 [zR x5] H4 (fun x11 H10 => zclI w d 113 [zR l2] H10 (fun x13 H12 => (¬ x11 = x13 → zgo w (d + 1) 138 25 [zR 32, zJ, zR l2, zI (zor l3 0), zI (w32 (l4 + 1)), zJ, zJ] [] H12 (zQI K)) ∧ (x11 = x13 → zgo w (d + 1) 138 25 [zR 32, zJ, zR l2, zI (zor l3 (zshl 1 l4)), zI (w32 (l4 + 1)), zJ, zJ] [] H12 (zQI K))))))))) :
    zgo w (d + 1) 138 25 [zR 32, zJ, zR l2, zI l3, zI l4, zJ, zJ] [] H (zQI K) := by
  refine g_il zp138 rfl rfl rfl ?_
  refine g_al zp138 rfl rfl rfl (by decide) ?_
  refine g_get (v := zR 40) zp138 rfl rfl rfl ⟨rfl, by decide, (by decide)⟩ rfl ?_
  refine g_get (v := zI (H 40 1)) zp138 rfl rfl rfl ⟨rfl, by decide, (by decide)⟩ rfl ?_
  refine g_icmp zp138 rfl rfl zc3 (fun c1 => ?_) (fun c1 => ?_)
  · replace h := h.1 c1
    refine g_al zp138 rfl rfl rfl (by decide) ?_
    refine g_il zp138 rfl rfl rfl ?_
    refine g_callI (as := [zR 32, zI l3]) (rest := []) zp138 rfl rfl (Nat.succ_pos _) rfl rfl (Nat.le_of_ble_eq_true rfl) (Nat.le_of_ble_eq_true rfl) rfl rfl h (fun x3 H2 h => ?_)
    exact g_ret zp138 rfl rfl ⟨_, rfl, h⟩
  · replace h := h.2 c1
    refine g_al zp138 rfl rfl rfl (by decide) ?_
    refine g_il zp138 rfl rfl rfl ?_
    refine g_callR (as := [zR 32, zI l4]) (rest := []) zp138 rfl rfl (Nat.succ_pos _) rfl rfl (Nat.le_of_ble_eq_true rfl) (Nat.le_of_ble_eq_true rfl) rfl rfl h (fun x5 H4 h => ?_)
    obtain ⟨fx5, h⟩ := h
    refine g_as (ls' := [zR 32, zJ, zR l2, zI l3, zI l4, zR x5, zJ]) zp138 rfl rfl (Nat.le_of_ble_eq_true rfl) (Int.le_trans (by decide) (zW_ge fx5)) rfl ?_
    refine g_al zp138 rfl rfl rfl (Int.le_trans (by decide) (zW_ge fx5)) ?_
    refine g_get (v := zI (H4 x5 2)) zp138 rfl rfl (zW_sh fx5) ⟨rfl, by decide, (zW_ge fx5)⟩ (congrArg (ztag _) (zM_no (zW_ge fx5) (zW_fx fx5 2 (by decide)))) ?_
    refine g_al zp138 rfl rfl rfl (Int.le_trans (by decide) (zW_ge hl2)) ?_
    refine g_get (v := zI (H4 l2 2)) zp138 rfl rfl (zW_sh hl2) ⟨rfl, by decide, (zW_ge hl2)⟩ (congrArg (ztag _) (zM_no (zW_ge hl2) (zW_fx hl2 2 (by decide)))) ?_
    refine g_icmp zp138 rfl rfl zc1 (fun c6 => ?_) (fun c6 => ?_)
    · replace h := h.1 c6
      refine g_ic zp138 rfl rfl ?_
      refine g_is (ls' := [zR 32, zJ, zR l2, zI l3, zI l4, zR x5, zI 0]) zp138 rfl rfl (Nat.le_of_ble_eq_true rfl) rfl ?_
      refine g_il zp138 rfl rfl rfl ?_
      refine g_il zp138 rfl rfl rfl ?_
      refine g_if zp138 rfl rfl zc0 (fun c7 => ?_) (fun c7 => ?_)
      · refine g_ic zp138 rfl rfl ?_
        refine g_ar (r := zor l3 0) zp138 rfl rfl rfl ?_
        refine g_is (ls' := [zR 32, zJ, zR l2, zI (zor l3 0), zI l4, zR x5, zI 0]) zp138 rfl rfl (Nat.le_of_ble_eq_true rfl) rfl ?_
        refine g_inc (ls' := [zR 32, zJ, zR l2, zI (zor l3 0), zI (w32 (l4 + 1)), zR x5, zI 0]) zp138 rfl rfl rfl rfl ?_
        refine g_goto zp138 rfl ?_
        exact g_weak (ls' := [zR 32, zJ, zR l2, zI (zor l3 0), zI (w32 (l4 + 1)), zJ, zJ]) ⟨Or.inr rfl, Or.inr rfl, Or.inr rfl, Or.inr rfl, Or.inr rfl, Or.inl rfl, Or.inl rfl, trivial⟩ h
      · exact absurd c7 (by decide)
    · replace h := h.2 c6
      refine g_al zp138 rfl rfl rfl (Int.le_trans (by decide) (zW_ge hl2)) ?_
      refine g_get (v := zI (H4 l2 2)) zp138 rfl rfl (zW_sh hl2) ⟨rfl, by decide, (zW_ge hl2)⟩ (congrArg (ztag _) (zM_no (zW_ge hl2) (zW_fx hl2 2 (by decide)))) ?_
      refine g_ic zp138 rfl rfl ?_
      refine g_icmp zp138 rfl rfl zc1 (fun c8 => ?_) (fun c8 => ?_)
      · replace h := h.1 c8
        refine g_ic zp138 rfl rfl ?_
        refine g_goto zp138 rfl ?_
        refine g_is (ls' := [zR 32, zJ, zR l2, zI l3, zI l4, zR x5, zI 1]) zp138 rfl rfl (Nat.le_of_ble_eq_true rfl) rfl ?_
        refine g_il zp138 rfl rfl rfl ?_
        refine g_il zp138 rfl rfl rfl ?_
        refine g_if zp138 rfl rfl zc0 (fun c9 => ?_) (fun c9 => ?_)
        · exact absurd c9 (by decide)
        · refine g_ic zp138 rfl rfl ?_
          refine g_il zp138 rfl rfl rfl ?_
          refine g_ar (r := zshl 1 l4) zp138 rfl rfl rfl ?_
          refine g_goto zp138 rfl ?_
          refine g_ar (r := zor l3 (zshl 1 l4)) zp138 rfl rfl rfl ?_
          refine g_is (ls' := [zR 32, zJ, zR l2, zI (zor l3 (zshl 1 l4)), zI l4, zR x5, zI 1]) zp138 rfl rfl (Nat.le_of_ble_eq_true rfl) rfl ?_
          refine g_inc (ls' := [zR 32, zJ, zR l2, zI (zor l3 (zshl 1 l4)), zI (w32 (l4 + 1)), zR x5, zI 1]) zp138 rfl rfl rfl rfl ?_
          refine g_goto zp138 rfl ?_
          exact g_weak (ls' := [zR 32, zJ, zR l2, zI (zor l3 (zshl 1 l4)), zI (w32 (l4 + 1)), zJ, zJ]) ⟨Or.inr rfl, Or.inr rfl, Or.inr rfl, Or.inr rfl, Or.inr rfl, Or.inl rfl, Or.inl rfl, trivial⟩ h
      · replace h := h.2 c8
        refine g_al zp138 rfl rfl rfl (Int.le_trans (by decide) (zW_ge fx5)) ?_
        refine g_callI (as := [zR x5]) (rest := []) zp138 rfl rfl (Nat.succ_pos _) rfl rfl (Nat.le_of_ble_eq_true rfl) (Nat.le_of_ble_eq_true rfl) (zrecv_of (zW_sh fx5) rfl) rfl h (fun x11 H10 h => ?_)
        refine g_al zp138 rfl rfl rfl (Int.le_trans (by decide) (zW_ge hl2)) ?_
        refine g_callI (as := [zR l2]) (rest := [zI x11]) zp138 rfl rfl (Nat.succ_pos _) rfl rfl (Nat.le_of_ble_eq_true rfl) (Nat.le_of_ble_eq_true rfl) (zrecv_of (zW_sh hl2) rfl) rfl h (fun x13 H12 h => ?_)
        refine g_icmp zp138 rfl rfl zc1 (fun c14 => ?_) (fun c14 => ?_)
        · replace h := h.1 c14
          refine g_ic zp138 rfl rfl ?_
          refine g_is (ls' := [zR 32, zJ, zR l2, zI l3, zI l4, zR x5, zI 0]) zp138 rfl rfl (Nat.le_of_ble_eq_true rfl) rfl ?_
          refine g_il zp138 rfl rfl rfl ?_
          refine g_il zp138 rfl rfl rfl ?_
          refine g_if zp138 rfl rfl zc0 (fun c15 => ?_) (fun c15 => ?_)
          · refine g_ic zp138 rfl rfl ?_
            refine g_ar (r := zor l3 0) zp138 rfl rfl rfl ?_
            refine g_is (ls' := [zR 32, zJ, zR l2, zI (zor l3 0), zI l4, zR x5, zI 0]) zp138 rfl rfl (Nat.le_of_ble_eq_true rfl) rfl ?_
            refine g_inc (ls' := [zR 32, zJ, zR l2, zI (zor l3 0), zI (w32 (l4 + 1)), zR x5, zI 0]) zp138 rfl rfl rfl rfl ?_
            refine g_goto zp138 rfl ?_
            exact g_weak (ls' := [zR 32, zJ, zR l2, zI (zor l3 0), zI (w32 (l4 + 1)), zJ, zJ]) ⟨Or.inr rfl, Or.inr rfl, Or.inr rfl, Or.inr rfl, Or.inr rfl, Or.inl rfl, Or.inl rfl, trivial⟩ h
          · exact absurd c15 (by decide)
        · replace h := h.2 c14
          refine g_ic zp138 rfl rfl ?_
          refine g_goto zp138 rfl ?_
          refine g_is (ls' := [zR 32, zJ, zR l2, zI l3, zI l4, zR x5, zI 1]) zp138 rfl rfl (Nat.le_of_ble_eq_true rfl) rfl ?_
          refine g_il zp138 rfl rfl rfl ?_
          refine g_il zp138 rfl rfl rfl ?_
          refine g_if zp138 rfl rfl zc0 (fun c16 => ?_) (fun c16 => ?_)
          · exact absurd c16 (by decide)
          · refine g_ic zp138 rfl rfl ?_
            refine g_il zp138 rfl rfl rfl ?_
            refine g_ar (r := zshl 1 l4) zp138 rfl rfl rfl ?_
            refine g_goto zp138 rfl ?_
            refine g_ar (r := zor l3 (zshl 1 l4)) zp138 rfl rfl rfl ?_
            refine g_is (ls' := [zR 32, zJ, zR l2, zI (zor l3 (zshl 1 l4)), zI l4, zR x5, zI 1]) zp138 rfl rfl (Nat.le_of_ble_eq_true rfl) rfl ?_
            refine g_inc (ls' := [zR 32, zJ, zR l2, zI (zor l3 (zshl 1 l4)), zI (w32 (l4 + 1)), zR x5, zI 1]) zp138 rfl rfl rfl rfl ?_
            refine g_goto zp138 rfl ?_
            exact g_weak (ls' := [zR 32, zJ, zR l2, zI (zor l3 (zshl 1 l4)), zI (w32 (l4 + 1)), zJ, zJ]) ⟨Or.inr rfl, Or.inr rfl, Or.inr rfl, Or.inr rfl, Or.inr rfl, Or.inl rfl, Or.inl rfl, trivial⟩ h
theorem zp139 : zprog.getD 139 [] = zk139 := rfl
theorem x139_0 {w : zWt} {d : Nat} {H : zHt} {K : Int → zHt → Prop} {l1 : Int} {l2 : Int} {l3 : Int}
    (h : zclI w d 81 [zI l1, zI l2, zI 500] H (fun x2 H1 => (x2 = 0 → zclI w d 13 [zR 32, zI 1] H1 (fun x5 H4 => K x5 H4)) ∧ (¬ x2 = 0 → zclI w d 44 [zI l3, zI 4] H1 (fun x7 H6 => (¬ x7 = 0 → zgo w (d + 1) 139 31 [zR 32, zJ, zI l2, zI l3, zI 0, zI l1] [] H6 (zQI K)) ∧ (x7 = 0 → zclI w d 13 [zR 32, zI 1] H6 (fun x10 H9 => K x10 H9)))))) :
    zclI w (d + 1) 139 [zR 32, zI l1, zI l2, zI l3] H K := by
  show zgo w (d + 1) 139 0 [zR 32, zI l1, zI l2, zI l3, zJ, zJ] [] H (zQI K)
  refine g_il zp139 rfl rfl rfl ?_
  refine g_il zp139 rfl rfl rfl ?_
  refine g_ic zp139 rfl rfl ?_
  refine g_callI (as := [zI l1, zI l2, zI 500]) (rest := []) zp139 rfl rfl (Nat.succ_pos _) rfl rfl (Nat.le_of_ble_eq_true rfl) (Nat.le_of_ble_eq_true rfl) rfl rfl h (fun x2 H1 h => ?_)
  refine g_if zp139 rfl rfl zc0 (fun c3 => ?_) (fun c3 => ?_)
  · replace h := h.1 c3
    refine g_al zp139 rfl rfl rfl (by decide) ?_
    refine g_ic zp139 rfl rfl ?_
    refine g_callI (as := [zR 32, zI 1]) (rest := []) zp139 rfl rfl (Nat.succ_pos _) rfl rfl (Nat.le_of_ble_eq_true rfl) (Nat.le_of_ble_eq_true rfl) rfl rfl h (fun x5 H4 h => ?_)
    exact g_ret zp139 rfl rfl ⟨_, rfl, h⟩
  · replace h := h.2 c3
    refine g_il zp139 rfl rfl rfl ?_
    refine g_ic zp139 rfl rfl ?_
    refine g_callI (as := [zI l3, zI 4]) (rest := []) zp139 rfl rfl (Nat.succ_pos _) rfl rfl (Nat.le_of_ble_eq_true rfl) (Nat.le_of_ble_eq_true rfl) rfl rfl h (fun x7 H6 h => ?_)
    refine g_if zp139 rfl rfl zc1 (fun c8 => ?_) (fun c8 => ?_)
    · replace h := h.1 c8
      refine g_ic zp139 rfl rfl ?_
      refine g_is (ls' := [zR 32, zI l1, zI l2, zI l3, zI 0, zJ]) zp139 rfl rfl (Nat.le_of_ble_eq_true rfl) rfl ?_
      refine g_il zp139 rfl rfl rfl ?_
      refine g_is (ls' := [zR 32, zI l1, zI l2, zI l3, zI 0, zI l1]) zp139 rfl rfl (Nat.le_of_ble_eq_true rfl) rfl ?_
      exact g_weak (ls' := [zR 32, zJ, zI l2, zI l3, zI 0, zI l1]) ⟨Or.inr rfl, Or.inl rfl, Or.inr rfl, Or.inr rfl, Or.inr rfl, Or.inr rfl, trivial⟩ h
    · replace h := h.2 c8
      refine g_al zp139 rfl rfl rfl (by decide) ?_
      refine g_ic zp139 rfl rfl ?_
      refine g_callI (as := [zR 32, zI 1]) (rest := []) zp139 rfl rfl (Nat.succ_pos _) rfl rfl (Nat.le_of_ble_eq_true rfl) (Nat.le_of_ble_eq_true rfl) rfl rfl h (fun x10 H9 h => ?_)
      exact g_ret zp139 rfl rfl ⟨_, rfl, h⟩
theorem x139_31 {w : zWt} {d : Nat} {H : zHt} {K : Int → zHt → Prop} {l2 : Int} {l3 : Int} {l4 : Int} {l5 : Int}
    (h : (l2 < l5 → zclI w d 39 [zR 32, zI l4] H (fun x3 H2 => K x3 H2)) ∧ (l5 ≤ l2 → zclI w d 140 [zR 32, zI l5, zI l3] H (fun x5 H4 => (x5 = 0 → zgo w (d + 1) 139 31 [zR 32, zJ, zI l2, zI l3, zI (w32 (l4 + 0)), zI (w32 (l5 + 1))] [] H4 (zQI K)) ∧ (¬ x5 = 0 → zgo w (d + 1) 139 31 [zR 32, zJ, zI l2, zI l3, zI (w32 (l4 + 1)), zI (w32 (l5 + 1))] [] H4 (zQI K))))) :
    zgo w (d + 1) 139 31 [zR 32, zJ, zI l2, zI l3, zI l4, zI l5] [] H (zQI K) := by
  refine g_il zp139 rfl rfl rfl ?_
  refine g_il zp139 rfl rfl rfl ?_
  refine g_icmp zp139 rfl rfl zc4 (fun c1 => ?_) (fun c1 => ?_)
  · replace h := h.1 c1
    refine g_al zp139 rfl rfl rfl (by decide) ?_
    refine g_il zp139 rfl rfl rfl ?_
    refine g_callI (as := [zR 32, zI l4]) (rest := []) zp139 rfl rfl (Nat.succ_pos _) rfl rfl (Nat.le_of_ble_eq_true rfl) (Nat.le_of_ble_eq_true rfl) rfl rfl h (fun x3 H2 h => ?_)
    exact g_ret zp139 rfl rfl ⟨_, rfl, h⟩
  · replace h := h.2 c1
    refine g_il zp139 rfl rfl rfl ?_
    refine g_al zp139 rfl rfl rfl (by decide) ?_
    refine g_il zp139 rfl rfl rfl ?_
    refine g_il zp139 rfl rfl rfl ?_
    refine g_callI (as := [zR 32, zI l5, zI l3]) (rest := [zI l4]) zp139 rfl rfl (Nat.succ_pos _) rfl rfl (Nat.le_of_ble_eq_true rfl) (Nat.le_of_ble_eq_true rfl) rfl rfl h (fun x5 H4 h => ?_)
    refine g_if zp139 rfl rfl zc0 (fun c6 => ?_) (fun c6 => ?_)
    · replace h := h.1 c6
      refine g_ic zp139 rfl rfl ?_
      refine g_ar (r := w32 (l4 + 0)) zp139 rfl rfl rfl ?_
      refine g_is (ls' := [zR 32, zJ, zI l2, zI l3, zI (w32 (l4 + 0)), zI l5]) zp139 rfl rfl (Nat.le_of_ble_eq_true rfl) rfl ?_
      refine g_inc (ls' := [zR 32, zJ, zI l2, zI l3, zI (w32 (l4 + 0)), zI (w32 (l5 + 1))]) zp139 rfl rfl rfl rfl ?_
      refine g_goto zp139 rfl ?_
      exact g_weak (ls' := [zR 32, zJ, zI l2, zI l3, zI (w32 (l4 + 0)), zI (w32 (l5 + 1))]) ⟨Or.inr rfl, Or.inr rfl, Or.inr rfl, Or.inr rfl, Or.inr rfl, Or.inr rfl, trivial⟩ h
    · replace h := h.2 c6
      refine g_ic zp139 rfl rfl ?_
      refine g_goto zp139 rfl ?_
      refine g_ar (r := w32 (l4 + 1)) zp139 rfl rfl rfl ?_
      refine g_is (ls' := [zR 32, zJ, zI l2, zI l3, zI (w32 (l4 + 1)), zI l5]) zp139 rfl rfl (Nat.le_of_ble_eq_true rfl) rfl ?_
      refine g_inc (ls' := [zR 32, zJ, zI l2, zI l3, zI (w32 (l4 + 1)), zI (w32 (l5 + 1))]) zp139 rfl rfl rfl rfl ?_
      refine g_goto zp139 rfl ?_
      exact g_weak (ls' := [zR 32, zJ, zI l2, zI l3, zI (w32 (l4 + 1)), zI (w32 (l5 + 1))]) ⟨Or.inr rfl, Or.inr rfl, Or.inr rfl, Or.inr rfl, Or.inr rfl, Or.inr rfl, trivial⟩ h
theorem zp140 : zprog.getD 140 [] = zk140 := rfl
theorem x140_0 {w : zWt} {d : Nat} {H : zHt} {K : Int → zHt → Prop} {l1 : Int} {l2 : Int}
    (h : (¬ l2 = 3 → (¬ l2 = 4 → zclI w d 62 [zR 32, zI (H 40 4), zI l1] H (fun x4 H3 => (¬ x4 = l2 → K 0 H3) ∧ (x4 = l2 → K 1 H3))) ∧ (l2 = 4 → zclI w d 68 [zR 32, zI l1] H (fun x7 H6 => (x7 = 0 ∨ x7 = 1) ∧ K x7 H6))) ∧ (l2 = 3 → zclI w d 103 [zR 36, zI l1] H (fun x10 H9 => (x10 = 0 ∨ x10 = 1) ∧ K x10 H9))) :
    zclI w (d + 1) 140 [zR 32, zI l1, zI l2] H K := by
  show zgo w (d + 1) 140 0 [zR 32, zI l1, zI l2] [] H (zQI K)
  refine g_il zp140 rfl rfl rfl ?_
  refine g_ic zp140 rfl rfl ?_
  refine g_icmp zp140 rfl rfl zc1 (fun c1 => ?_) (fun c1 => ?_)
  · replace h := h.1 c1
    refine g_il zp140 rfl rfl rfl ?_
    refine g_ic zp140 rfl rfl ?_
    refine g_icmp zp140 rfl rfl zc1 (fun c2 => ?_) (fun c2 => ?_)
    · replace h := h.1 c2
      refine g_al zp140 rfl rfl rfl (by decide) ?_
      refine g_al zp140 rfl rfl rfl (by decide) ?_
      refine g_get (v := zR 40) zp140 rfl rfl rfl ⟨rfl, by decide, (by decide)⟩ rfl ?_
      refine g_get (v := zI (H 40 4)) zp140 rfl rfl rfl ⟨rfl, by decide, (by decide)⟩ rfl ?_
      refine g_il zp140 rfl rfl rfl ?_
      refine g_callI (as := [zR 32, zI (H 40 4), zI l1]) (rest := []) zp140 rfl rfl (Nat.succ_pos _) rfl rfl (Nat.le_of_ble_eq_true rfl) (Nat.le_of_ble_eq_true rfl) rfl rfl h (fun x4 H3 h => ?_)
      refine g_il zp140 rfl rfl rfl ?_
      refine g_icmp zp140 rfl rfl zc1 (fun c5 => ?_) (fun c5 => ?_)
      · replace h := h.1 c5
        refine g_ic zp140 rfl rfl ?_
        exact g_ret zp140 rfl (zret_b (by decide)) ⟨_, rfl, h⟩
      · replace h := h.2 c5
        refine g_ic zp140 rfl rfl ?_
        refine g_goto zp140 rfl ?_
        exact g_ret zp140 rfl (zret_b (by decide)) ⟨_, rfl, h⟩
    · replace h := h.2 c2
      refine g_al zp140 rfl rfl rfl (by decide) ?_
      refine g_il zp140 rfl rfl rfl ?_
      refine g_callI (as := [zR 32, zI l1]) (rest := []) zp140 rfl rfl (Nat.succ_pos _) rfl rfl (Nat.le_of_ble_eq_true rfl) (Nat.le_of_ble_eq_true rfl) rfl rfl h (fun x7 H6 h => ?_)
      refine g_goto zp140 rfl ?_
      obtain ⟨c8, h⟩ := h
      exact g_ret zp140 rfl (zret_b c8) ⟨_, rfl, h⟩
  · replace h := h.2 c1
    refine g_al zp140 rfl rfl rfl (by decide) ?_
    refine g_get (v := zR 36) zp140 rfl rfl rfl ⟨rfl, by decide, (by decide)⟩ rfl ?_
    refine g_il zp140 rfl rfl rfl ?_
    refine g_callI (as := [zR 36, zI l1]) (rest := []) zp140 rfl rfl (Nat.succ_pos _) rfl rfl (Nat.le_of_ble_eq_true rfl) (Nat.le_of_ble_eq_true rfl) rfl rfl h (fun x10 H9 h => ?_)
    obtain ⟨c11, h⟩ := h
    exact g_ret zp140 rfl (zret_b c11) ⟨_, rfl, h⟩
theorem zp141 : zprog.getD 141 [] = zk141 := rfl
theorem x141_0 {w : zWt} {d : Nat} {H : zHt} {K : Int → zHt → Prop} {l1 : Int} {l2 : Int} {l3 : Int} {l4 : Int}
    (h : zclI w d 81 [zI l1, zI l2, zI 500] H (fun x2 H1 => (x2 = 0 → zclI w d 13 [zR 32, zI 1] H1 (fun x5 H4 => K x5 H4)) ∧ (¬ x2 = 0 → (l3 < (-1) → zclI w d 13 [zR 32, zI 1] H1 (fun x8 H7 => K x8 H7)) ∧ ((-1) ≤ l3 → zclI w d 44 [zI l4, zI 1] H1 (fun x10 H9 => (¬ x10 = 0 → zgo w (d + 1) 141 37 [zR 32, zJ, zI l2, zI l3, zI l4, zI 0, zI l1, zJ] [] H9 (zQI K)) ∧ (x10 = 0 → zclI w d 13 [zR 32, zI 1] H9 (fun x13 H12 => K x13 H12))))))) :
    zclI w (d + 1) 141 [zR 32, zI l1, zI l2, zI l3, zI l4] H K := by
  show zgo w (d + 1) 141 0 [zR 32, zI l1, zI l2, zI l3, zI l4, zJ, zJ, zJ] [] H (zQI K)
  refine g_il zp141 rfl rfl rfl ?_
  refine g_il zp141 rfl rfl rfl ?_
  refine g_ic zp141 rfl rfl ?_
  refine g_callI (as := [zI l1, zI l2, zI 500]) (rest := []) zp141 rfl rfl (Nat.succ_pos _) rfl rfl (Nat.le_of_ble_eq_true rfl) (Nat.le_of_ble_eq_true rfl) rfl rfl h (fun x2 H1 h => ?_)
  refine g_if zp141 rfl rfl zc0 (fun c3 => ?_) (fun c3 => ?_)
  · replace h := h.1 c3
    refine g_al zp141 rfl rfl rfl (by decide) ?_
    refine g_ic zp141 rfl rfl ?_
    refine g_callI (as := [zR 32, zI 1]) (rest := []) zp141 rfl rfl (Nat.succ_pos _) rfl rfl (Nat.le_of_ble_eq_true rfl) (Nat.le_of_ble_eq_true rfl) rfl rfl h (fun x5 H4 h => ?_)
    exact g_ret zp141 rfl rfl ⟨_, rfl, h⟩
  · replace h := h.2 c3
    refine g_il zp141 rfl rfl rfl ?_
    refine g_ic zp141 rfl rfl ?_
    refine g_icmp zp141 rfl rfl zc2 (fun c6 => ?_) (fun c6 => ?_)
    · replace h := h.1 c6
      refine g_al zp141 rfl rfl rfl (by decide) ?_
      refine g_ic zp141 rfl rfl ?_
      refine g_callI (as := [zR 32, zI 1]) (rest := []) zp141 rfl rfl (Nat.succ_pos _) rfl rfl (Nat.le_of_ble_eq_true rfl) (Nat.le_of_ble_eq_true rfl) rfl rfl h (fun x8 H7 h => ?_)
      exact g_ret zp141 rfl rfl ⟨_, rfl, h⟩
    · replace h := h.2 c6
      refine g_il zp141 rfl rfl rfl ?_
      refine g_ic zp141 rfl rfl ?_
      refine g_callI (as := [zI l4, zI 1]) (rest := []) zp141 rfl rfl (Nat.succ_pos _) rfl rfl (Nat.le_of_ble_eq_true rfl) (Nat.le_of_ble_eq_true rfl) rfl rfl h (fun x10 H9 h => ?_)
      refine g_if zp141 rfl rfl zc1 (fun c11 => ?_) (fun c11 => ?_)
      · replace h := h.1 c11
        refine g_ic zp141 rfl rfl ?_
        refine g_is (ls' := [zR 32, zI l1, zI l2, zI l3, zI l4, zI 0, zJ, zJ]) zp141 rfl rfl (Nat.le_of_ble_eq_true rfl) rfl ?_
        refine g_il zp141 rfl rfl rfl ?_
        refine g_is (ls' := [zR 32, zI l1, zI l2, zI l3, zI l4, zI 0, zI l1, zJ]) zp141 rfl rfl (Nat.le_of_ble_eq_true rfl) rfl ?_
        exact g_weak (ls' := [zR 32, zJ, zI l2, zI l3, zI l4, zI 0, zI l1, zJ]) ⟨Or.inr rfl, Or.inl rfl, Or.inr rfl, Or.inr rfl, Or.inr rfl, Or.inr rfl, Or.inr rfl, Or.inr rfl, trivial⟩ h
      · replace h := h.2 c11
        refine g_al zp141 rfl rfl rfl (by decide) ?_
        refine g_ic zp141 rfl rfl ?_
        refine g_callI (as := [zR 32, zI 1]) (rest := []) zp141 rfl rfl (Nat.succ_pos _) rfl rfl (Nat.le_of_ble_eq_true rfl) (Nat.le_of_ble_eq_true rfl) rfl rfl h (fun x13 H12 h => ?_)
        exact g_ret zp141 rfl rfl ⟨_, rfl, h⟩
theorem x141_37 {w : zWt} {d : Nat} {H : zHt} {K : Int → zHt → Prop} {l2 : Int} {l3 : Int} {l4 : Int} {l5 : Int} {l6 : Int}
    (h : (l2 < l6 → zclI w d 82 [zR 32, zI l3, zI l5] H (fun x3 H2 => K x3 H2)) ∧ (l6 ≤ l2 → zclI w d 142 [zR 32, zI l6] H (fun x5 H4 => (¬ x5 = (-1) → (¬ l5 = l3 → zgo w (d + 1) 141 37 [zR 32, zJ, zI l2, zI l3, zI l4, zI (w32 (l5 + 1)), zI (w32 (l6 + 1)), zJ] [] H4 (zQI K)) ∧ (l5 = l3 → (¬ l4 = 0 → zclI w d 39 [zR 32, zI x5] H4 (fun x10 H9 => K x10 H9)) ∧ (l4 = 0 → zclI w d 39 [zR 32, zI l6] H4 (fun x12 H11 => K x12 H11)))) ∧ (x5 = (-1) → zgo w (d + 1) 141 37 [zR 32, zJ, zI l2, zI l3, zI l4, zI l5, zI (w32 (l6 + 1)), zJ] [] H4 (zQI K))))) :
    zgo w (d + 1) 141 37 [zR 32, zJ, zI l2, zI l3, zI l4, zI l5, zI l6, zJ] [] H (zQI K) := by
  refine g_il zp141 rfl rfl rfl ?_
  refine g_il zp141 rfl rfl rfl ?_
  refine g_icmp zp141 rfl rfl zc4 (fun c1 => ?_) (fun c1 => ?_)
  · replace h := h.1 c1
    refine g_al zp141 rfl rfl rfl (by decide) ?_
    refine g_il zp141 rfl rfl rfl ?_
    refine g_il zp141 rfl rfl rfl ?_
    refine g_callI (as := [zR 32, zI l3, zI l5]) (rest := []) zp141 rfl rfl (Nat.succ_pos _) rfl rfl (Nat.le_of_ble_eq_true rfl) (Nat.le_of_ble_eq_true rfl) rfl rfl h (fun x3 H2 h => ?_)
    exact g_ret zp141 rfl rfl ⟨_, rfl, h⟩
  · replace h := h.2 c1
    refine g_al zp141 rfl rfl rfl (by decide) ?_
    refine g_il zp141 rfl rfl rfl ?_
    refine g_callI (as := [zR 32, zI l6]) (rest := []) zp141 rfl rfl (Nat.succ_pos _) rfl rfl (Nat.le_of_ble_eq_true rfl) (Nat.le_of_ble_eq_true rfl) rfl rfl h (fun x5 H4 h => ?_)
    refine g_is (ls' := [zR 32, zJ, zI l2, zI l3, zI l4, zI l5, zI l6, zI x5]) zp141 rfl rfl (Nat.le_of_ble_eq_true rfl) rfl ?_
    refine g_il zp141 rfl rfl rfl ?_
    refine g_ic zp141 rfl rfl ?_
    refine g_icmp zp141 rfl rfl zc1 (fun c6 => ?_) (fun c6 => ?_)
    · replace h := h.1 c6
      refine g_il zp141 rfl rfl rfl ?_
      refine g_il zp141 rfl rfl rfl ?_
      refine g_icmp zp141 rfl rfl zc1 (fun c7 => ?_) (fun c7 => ?_)
      · replace h := h.1 c7
        refine g_inc (ls' := [zR 32, zJ, zI l2, zI l3, zI l4, zI (w32 (l5 + 1)), zI l6, zI x5]) zp141 rfl rfl rfl rfl ?_
        refine g_inc (ls' := [zR 32, zJ, zI l2, zI l3, zI l4, zI (w32 (l5 + 1)), zI (w32 (l6 + 1)), zI x5]) zp141 rfl rfl rfl rfl ?_
        refine g_goto zp141 rfl ?_
        exact g_weak (ls' := [zR 32, zJ, zI l2, zI l3, zI l4, zI (w32 (l5 + 1)), zI (w32 (l6 + 1)), zJ]) ⟨Or.inr rfl, Or.inr rfl, Or.inr rfl, Or.inr rfl, Or.inr rfl, Or.inr rfl, Or.inr rfl, Or.inl rfl, trivial⟩ h
      · replace h := h.2 c7
        refine g_al zp141 rfl rfl rfl (by decide) ?_
        refine g_il zp141 rfl rfl rfl ?_
        refine g_if zp141 rfl rfl zc1 (fun c8 => ?_) (fun c8 => ?_)
        · replace h := h.1 c8
          refine g_il zp141 rfl rfl rfl ?_
          refine g_callI (as := [zR 32, zI x5]) (rest := []) zp141 rfl rfl (Nat.succ_pos _) rfl rfl (Nat.le_of_ble_eq_true rfl) (Nat.le_of_ble_eq_true rfl) rfl rfl h (fun x10 H9 h => ?_)
          exact g_ret zp141 rfl rfl ⟨_, rfl, h⟩
        · replace h := h.2 c8
          refine g_il zp141 rfl rfl rfl ?_
          refine g_goto zp141 rfl ?_
          refine g_callI (as := [zR 32, zI l6]) (rest := []) zp141 rfl rfl (Nat.succ_pos _) rfl rfl (Nat.le_of_ble_eq_true rfl) (Nat.le_of_ble_eq_true rfl) rfl rfl h (fun x12 H11 h => ?_)
          exact g_ret zp141 rfl rfl ⟨_, rfl, h⟩
    · replace h := h.2 c6
      refine g_goto zp141 rfl ?_
      refine g_inc (ls' := [zR 32, zJ, zI l2, zI l3, zI l4, zI l5, zI (w32 (l6 + 1)), zI x5]) zp141 rfl rfl rfl rfl ?_
      refine g_goto zp141 rfl ?_
      exact g_weak (ls' := [zR 32, zJ, zI l2, zI l3, zI l4, zI l5, zI (w32 (l6 + 1)), zJ]) ⟨Or.inr rfl, Or.inr rfl, Or.inr rfl, Or.inr rfl, Or.inr rfl, Or.inr rfl, Or.inr rfl, Or.inl rfl, trivial⟩ h
theorem zp142 : zprog.getD 142 [] = zk142 := rfl
theorem x142_0 {w : zWt} {d : Nat} {H : zHt} {K : Int → zHt → Prop} {l1 : Int}
    (h : zclL w d 52 [zR 32, zI l1] H (fun x2 H1 => (x2 ≤ l1 → K (-1) H1) ∧ (l1 < x2 → (x2 ≤ 999999999 → zclL w d 52 [zR 32, zI (w32 x2)] H1 (fun x6 H5 => (¬ x6 = l1 → K (-1) H5) ∧ (x6 = l1 → K (w32 x2) H5))) ∧ (999999999 < x2 → K (-1) H1)))) :
    zclI w (d + 1) 142 [zR 32, zI l1] H K := by
  show zgo w (d + 1) 142 0 [zR 32, zI l1, zJ, zJ] [] H (zQI K)
  refine g_al zp142 rfl rfl rfl (by decide) ?_
  refine g_il zp142 rfl rfl rfl ?_
  refine g_callL (as := [zR 32, zI l1]) (rest := []) zp142 rfl rfl (Nat.succ_pos _) rfl rfl (Nat.le_of_ble_eq_true rfl) (Nat.le_of_ble_eq_true rfl) rfl rfl h (fun x2 H1 h => ?_)
  refine g_ls (ls' := [zR 32, zI l1, zL x2, zJ]) zp142 rfl rfl (Nat.le_of_ble_eq_true rfl) rfl ?_
  refine g_ll zp142 rfl rfl rfl ?_
  refine g_il zp142 rfl rfl rfl ?_
  refine g_i2l zp142 rfl rfl ?_
  refine g_lcmp zp142 rfl rfl rfl rfl zc5 (fun c3 => ?_) (fun c3 => ?_)
  · replace h := h.1 c3
    refine g_ic zp142 rfl rfl ?_
    exact g_ret zp142 rfl rfl ⟨_, rfl, h⟩
  · replace h := h.2 c3
    refine g_ll zp142 rfl rfl rfl ?_
    refine g_lc zp142 rfl rfl ?_
    refine g_lcmp zp142 rfl rfl rfl rfl zc5 (fun c4 => ?_) (fun c4 => ?_)
    · replace h := h.1 c4
      refine g_al zp142 rfl rfl rfl (by decide) ?_
      refine g_ll zp142 rfl rfl rfl ?_
      refine g_l2i zp142 rfl rfl ?_
      refine g_callL (as := [zR 32, zI (w32 x2)]) (rest := []) zp142 rfl rfl (Nat.succ_pos _) rfl rfl (Nat.le_of_ble_eq_true rfl) (Nat.le_of_ble_eq_true rfl) rfl rfl h (fun x6 H5 h => ?_)
      refine g_il zp142 rfl rfl rfl ?_
      refine g_i2l zp142 rfl rfl ?_
      refine g_lcmp zp142 rfl rfl rfl rfl zc1 (fun c7 => ?_) (fun c7 => ?_)
      · replace h := h.1 c7
        refine g_ic zp142 rfl rfl ?_
        exact g_ret zp142 rfl rfl ⟨_, rfl, h⟩
      · replace h := h.2 c7
        refine g_ll zp142 rfl rfl rfl ?_
        refine g_l2i zp142 rfl rfl ?_
        refine g_goto zp142 rfl ?_
        exact g_ret zp142 rfl rfl ⟨_, rfl, h⟩
    · replace h := h.2 c4
      refine g_ic zp142 rfl rfl ?_
      exact g_ret zp142 rfl rfl ⟨_, rfl, h⟩
theorem zp143 : zprog.getD 143 [] = zk143 := rfl
theorem x143_0 {w : zWt} {d : Nat} {H : zHt} {K : Int → zHt → Prop} {l1 : Int} {l2 : Int} {l3 : Int} {l4 : Int}
    (h : zclI w d 81 [zI l1, zI l2, zI 50] H (fun x2 H1 => (x2 = 0 → zclI w d 13 [zR 32, zI 1] H1 (fun x5 H4 => K x5 H4)) ∧ (¬ x2 = 0 → (l3 < 1 → zclI w d 13 [zR 32, zI 1] H1 (fun x8 H7 => K x8 H7)) ∧ (1 ≤ l3 → (30 < l3 → zclI w d 13 [zR 32, zI 1] H1 (fun x11 H10 => K x11 H10)) ∧ (l3 ≤ 30 → ((-1) ≤ l4 → zgo w (d + 1) 143 39 [zR 32, zJ, zI l2, zI l3, zI l4, zI 0, zI l1] [] H1 (zQI K)) ∧ (l4 < (-1) → zclI w d 13 [zR 32, zI 1] H1 (fun x14 H13 => K x14 H13))))))) :
    zclI w (d + 1) 143 [zR 32, zI l1, zI l2, zI l3, zI l4] H K := by
  show zgo w (d + 1) 143 0 [zR 32, zI l1, zI l2, zI l3, zI l4, zJ, zJ] [] H (zQI K)
  refine g_il zp143 rfl rfl rfl ?_
  refine g_il zp143 rfl rfl rfl ?_
  refine g_ic zp143 rfl rfl ?_
  refine g_callI (as := [zI l1, zI l2, zI 50]) (rest := []) zp143 rfl rfl (Nat.succ_pos _) rfl rfl (Nat.le_of_ble_eq_true rfl) (Nat.le_of_ble_eq_true rfl) rfl rfl h (fun x2 H1 h => ?_)
  refine g_if zp143 rfl rfl zc0 (fun c3 => ?_) (fun c3 => ?_)
  · replace h := h.1 c3
    refine g_al zp143 rfl rfl rfl (by decide) ?_
    refine g_ic zp143 rfl rfl ?_
    refine g_callI (as := [zR 32, zI 1]) (rest := []) zp143 rfl rfl (Nat.succ_pos _) rfl rfl (Nat.le_of_ble_eq_true rfl) (Nat.le_of_ble_eq_true rfl) rfl rfl h (fun x5 H4 h => ?_)
    exact g_ret zp143 rfl rfl ⟨_, rfl, h⟩
  · replace h := h.2 c3
    refine g_il zp143 rfl rfl rfl ?_
    refine g_ic zp143 rfl rfl ?_
    refine g_icmp zp143 rfl rfl zc2 (fun c6 => ?_) (fun c6 => ?_)
    · replace h := h.1 c6
      refine g_al zp143 rfl rfl rfl (by decide) ?_
      refine g_ic zp143 rfl rfl ?_
      refine g_callI (as := [zR 32, zI 1]) (rest := []) zp143 rfl rfl (Nat.succ_pos _) rfl rfl (Nat.le_of_ble_eq_true rfl) (Nat.le_of_ble_eq_true rfl) rfl rfl h (fun x8 H7 h => ?_)
      exact g_ret zp143 rfl rfl ⟨_, rfl, h⟩
    · replace h := h.2 c6
      refine g_il zp143 rfl rfl rfl ?_
      refine g_ic zp143 rfl rfl ?_
      refine g_icmp zp143 rfl rfl zc4 (fun c9 => ?_) (fun c9 => ?_)
      · replace h := h.1 c9
        refine g_al zp143 rfl rfl rfl (by decide) ?_
        refine g_ic zp143 rfl rfl ?_
        refine g_callI (as := [zR 32, zI 1]) (rest := []) zp143 rfl rfl (Nat.succ_pos _) rfl rfl (Nat.le_of_ble_eq_true rfl) (Nat.le_of_ble_eq_true rfl) rfl rfl h (fun x11 H10 h => ?_)
        exact g_ret zp143 rfl rfl ⟨_, rfl, h⟩
      · replace h := h.2 c9
        refine g_il zp143 rfl rfl rfl ?_
        refine g_ic zp143 rfl rfl ?_
        refine g_icmp zp143 rfl rfl zc3 (fun c12 => ?_) (fun c12 => ?_)
        · replace h := h.1 c12
          refine g_ic zp143 rfl rfl ?_
          refine g_is (ls' := [zR 32, zI l1, zI l2, zI l3, zI l4, zI 0, zJ]) zp143 rfl rfl (Nat.le_of_ble_eq_true rfl) rfl ?_
          refine g_il zp143 rfl rfl rfl ?_
          refine g_is (ls' := [zR 32, zI l1, zI l2, zI l3, zI l4, zI 0, zI l1]) zp143 rfl rfl (Nat.le_of_ble_eq_true rfl) rfl ?_
          exact g_weak (ls' := [zR 32, zJ, zI l2, zI l3, zI l4, zI 0, zI l1]) ⟨Or.inr rfl, Or.inl rfl, Or.inr rfl, Or.inr rfl, Or.inr rfl, Or.inr rfl, Or.inr rfl, trivial⟩ h
        · replace h := h.2 c12
          refine g_al zp143 rfl rfl rfl (by decide) ?_
          refine g_ic zp143 rfl rfl ?_
          refine g_callI (as := [zR 32, zI 1]) (rest := []) zp143 rfl rfl (Nat.succ_pos _) rfl rfl (Nat.le_of_ble_eq_true rfl) (Nat.le_of_ble_eq_true rfl) rfl rfl h (fun x14 H13 h => ?_)
          exact g_ret zp143 rfl rfl ⟨_, rfl, h⟩
theorem x143_39 {w : zWt} {d : Nat} {H : zHt} {K : Int → zHt → Prop} {l2 : Int} {l3 : Int} {l4 : Int} {l5 : Int} {l6 : Int}
    (h : (l2 < l6 → zclI w d 82 [zR 32, zI l4, zI l5] H (fun x3 H2 => K x3 H2)) ∧ (l6 ≤ l2 → zclI w d 144 [zR 32, zI l6, zI l3] H (fun x5 H4 => (¬ x5 = 0 → (¬ l5 = l4 → zgo w (d + 1) 143 39 [zR 32, zJ, zI l2, zI l3, zI l4, zI (w32 (l5 + 1)), zI (w32 (l6 + 1))] [] H4 (zQI K)) ∧ (l5 = l4 → zclI w d 39 [zR 32, zI l6] H4 (fun x9 H8 => K x9 H8))) ∧ (x5 = 0 → zgo w (d + 1) 143 39 [zR 32, zJ, zI l2, zI l3, zI l4, zI l5, zI (w32 (l6 + 1))] [] H4 (zQI K))))) :
    zgo w (d + 1) 143 39 [zR 32, zJ, zI l2, zI l3, zI l4, zI l5, zI l6] [] H (zQI K) := by
  refine g_il zp143 rfl rfl rfl ?_
  refine g_il zp143 rfl rfl rfl ?_
  refine g_icmp zp143 rfl rfl zc4 (fun c1 => ?_) (fun c1 => ?_)
  · replace h := h.1 c1
    refine g_al zp143 rfl rfl rfl (by decide) ?_
    refine g_il zp143 rfl rfl rfl ?_
    refine g_il zp143 rfl rfl rfl ?_
    refine g_callI (as := [zR 32, zI l4, zI l5]) (rest := []) zp143 rfl rfl (Nat.succ_pos _) rfl rfl (Nat.le_of_ble_eq_true rfl) (Nat.le_of_ble_eq_true rfl) rfl rfl h (fun x3 H2 h => ?_)
    exact g_ret zp143 rfl rfl ⟨_, rfl, h⟩
  · replace h := h.2 c1
    refine g_al zp143 rfl rfl rfl (by decide) ?_
    refine g_il zp143 rfl rfl rfl ?_
    refine g_il zp143 rfl rfl rfl ?_
    refine g_callI (as := [zR 32, zI l6, zI l3]) (rest := []) zp143 rfl rfl (Nat.succ_pos _) rfl rfl (Nat.le_of_ble_eq_true rfl) (Nat.le_of_ble_eq_true rfl) rfl rfl h (fun x5 H4 h => ?_)
    refine g_if zp143 rfl rfl zc1 (fun c6 => ?_) (fun c6 => ?_)
    · replace h := h.1 c6
      refine g_il zp143 rfl rfl rfl ?_
      refine g_il zp143 rfl rfl rfl ?_
      refine g_icmp zp143 rfl rfl zc1 (fun c7 => ?_) (fun c7 => ?_)
      · replace h := h.1 c7
        refine g_inc (ls' := [zR 32, zJ, zI l2, zI l3, zI l4, zI (w32 (l5 + 1)), zI l6]) zp143 rfl rfl rfl rfl ?_
        refine g_inc (ls' := [zR 32, zJ, zI l2, zI l3, zI l4, zI (w32 (l5 + 1)), zI (w32 (l6 + 1))]) zp143 rfl rfl rfl rfl ?_
        refine g_goto zp143 rfl ?_
        exact g_weak (ls' := [zR 32, zJ, zI l2, zI l3, zI l4, zI (w32 (l5 + 1)), zI (w32 (l6 + 1))]) ⟨Or.inr rfl, Or.inr rfl, Or.inr rfl, Or.inr rfl, Or.inr rfl, Or.inr rfl, Or.inr rfl, trivial⟩ h
      · replace h := h.2 c7
        refine g_al zp143 rfl rfl rfl (by decide) ?_
        refine g_il zp143 rfl rfl rfl ?_
        refine g_callI (as := [zR 32, zI l6]) (rest := []) zp143 rfl rfl (Nat.succ_pos _) rfl rfl (Nat.le_of_ble_eq_true rfl) (Nat.le_of_ble_eq_true rfl) rfl rfl h (fun x9 H8 h => ?_)
        exact g_ret zp143 rfl rfl ⟨_, rfl, h⟩
    · replace h := h.2 c6
      refine g_goto zp143 rfl ?_
      refine g_inc (ls' := [zR 32, zJ, zI l2, zI l3, zI l4, zI l5, zI (w32 (l6 + 1))]) zp143 rfl rfl rfl rfl ?_
      refine g_goto zp143 rfl ?_
      exact g_weak (ls' := [zR 32, zJ, zI l2, zI l3, zI l4, zI l5, zI (w32 (l6 + 1))]) ⟨Or.inr rfl, Or.inr rfl, Or.inr rfl, Or.inr rfl, Or.inr rfl, Or.inr rfl, Or.inr rfl, trivial⟩ h
theorem zp144 : zprog.getD 144 [] = zk144 := rfl
theorem x144_0 {w : zWt} {d : Nat} {H : zHt} {K : Int → zHt → Prop} {l1 : Int} {l2 : Int}
    (h : zgo w (d + 1) 144 5 [zR 32, zI l1, zI l2, zI l1, zI 1, zJ, zJ] [] H (zQI K)) :
    zclI w (d + 1) 144 [zR 32, zI l1, zI l2] H K := by
  show zgo w (d + 1) 144 0 [zR 32, zI l1, zI l2, zJ, zJ, zJ, zJ] [] H (zQI K)
  refine g_il zp144 rfl rfl rfl ?_
  refine g_is (ls' := [zR 32, zI l1, zI l2, zI l1, zJ, zJ, zJ]) zp144 rfl rfl (Nat.le_of_ble_eq_true rfl) rfl ?_
  refine g_ic zp144 rfl rfl ?_
  refine g_is (ls' := [zR 32, zI l1, zI l2, zI l1, zI 1, zJ, zJ]) zp144 rfl rfl (Nat.le_of_ble_eq_true rfl) rfl ?_
  exact g_weak (ls' := [zR 32, zI l1, zI l2, zI l1, zI 1, zJ, zJ]) ⟨Or.inr rfl, Or.inr rfl, Or.inr rfl, Or.inr rfl, Or.inr rfl, Or.inr rfl, Or.inr rfl, trivial⟩ h
theorem x144_5 {w : zWt} {d : Nat} {H : zHt} {K : Int → zHt → Prop} {l1 : Int} {l2 : Int} {l3 : Int} {l4 : Int}
    (h : (l2 ≤ l4 → zclL w d 52 [zR 32, zI l3] H (fun x3 H2 => (¬ x3 = l1 → K 0 H2) ∧ (x3 = l1 → K 1 H2))) ∧ (l4 < l2 → zclL w d 52 [zR 32, zI l3] H (fun x6 H5 => (x6 ≤ l1 → K 0 H5) ∧ (l1 < x6 → (x6 ≤ 999999999 → zgo w (d + 1) 144 5 [zR 32, zI l1, zI l2, zI (w32 x6), zI (w32 (l4 + 1)), zJ, zJ] [] H5 (zQI K)) ∧ (999999999 < x6 → K 0 H5))))) :
    zgo w (d + 1) 144 5 [zR 32, zI l1, zI l2, zI l3, zI l4, zJ, zJ] [] H (zQI K) := by
  refine g_il zp144 rfl rfl rfl ?_
  refine g_il zp144 rfl rfl rfl ?_
  refine g_icmp zp144 rfl rfl zc3 (fun c1 => ?_) (fun c1 => ?_)
  · replace h := h.1 c1
    refine g_al zp144 rfl rfl rfl (by decide) ?_
    refine g_il zp144 rfl rfl rfl ?_
    refine g_callL (as := [zR 32, zI l3]) (rest := []) zp144 rfl rfl (Nat.succ_pos _) rfl rfl (Nat.le_of_ble_eq_true rfl) (Nat.le_of_ble_eq_true rfl) rfl rfl h (fun x3 H2 h => ?_)
    refine g_il zp144 rfl rfl rfl ?_
    refine g_i2l zp144 rfl rfl ?_
    refine g_lcmp zp144 rfl rfl rfl rfl zc1 (fun c4 => ?_) (fun c4 => ?_)
    · replace h := h.1 c4
      refine g_ic zp144 rfl rfl ?_
      exact g_ret zp144 rfl (zret_b (by decide)) ⟨_, rfl, h⟩
    · replace h := h.2 c4
      refine g_ic zp144 rfl rfl ?_
      refine g_goto zp144 rfl ?_
      exact g_ret zp144 rfl (zret_b (by decide)) ⟨_, rfl, h⟩
  · replace h := h.2 c1
    refine g_al zp144 rfl rfl rfl (by decide) ?_
    refine g_il zp144 rfl rfl rfl ?_
    refine g_callL (as := [zR 32, zI l3]) (rest := []) zp144 rfl rfl (Nat.succ_pos _) rfl rfl (Nat.le_of_ble_eq_true rfl) (Nat.le_of_ble_eq_true rfl) rfl rfl h (fun x6 H5 h => ?_)
    refine g_ls (ls' := [zR 32, zI l1, zI l2, zI l3, zI l4, zL x6, zJ]) zp144 rfl rfl (Nat.le_of_ble_eq_true rfl) rfl ?_
    refine g_ll zp144 rfl rfl rfl ?_
    refine g_il zp144 rfl rfl rfl ?_
    refine g_i2l zp144 rfl rfl ?_
    refine g_lcmp zp144 rfl rfl rfl rfl zc5 (fun c7 => ?_) (fun c7 => ?_)
    · replace h := h.1 c7
      refine g_ic zp144 rfl rfl ?_
      exact g_ret zp144 rfl (zret_b (by decide)) ⟨_, rfl, h⟩
    · replace h := h.2 c7
      refine g_ll zp144 rfl rfl rfl ?_
      refine g_lc zp144 rfl rfl ?_
      refine g_lcmp zp144 rfl rfl rfl rfl zc5 (fun c8 => ?_) (fun c8 => ?_)
      · replace h := h.1 c8
        refine g_ll zp144 rfl rfl rfl ?_
        refine g_l2i zp144 rfl rfl ?_
        refine g_is (ls' := [zR 32, zI l1, zI l2, zI (w32 x6), zI l4, zL x6, zJ]) zp144 rfl rfl (Nat.le_of_ble_eq_true rfl) rfl ?_
        refine g_inc (ls' := [zR 32, zI l1, zI l2, zI (w32 x6), zI (w32 (l4 + 1)), zL x6, zJ]) zp144 rfl rfl rfl rfl ?_
        refine g_goto zp144 rfl ?_
        exact g_weak (ls' := [zR 32, zI l1, zI l2, zI (w32 x6), zI (w32 (l4 + 1)), zJ, zJ]) ⟨Or.inr rfl, Or.inr rfl, Or.inr rfl, Or.inr rfl, Or.inr rfl, Or.inl rfl, Or.inr rfl, trivial⟩ h
      · replace h := h.2 c8
        refine g_ic zp144 rfl rfl ?_
        exact g_ret zp144 rfl (zret_b (by decide)) ⟨_, rfl, h⟩
theorem zp145 : zprog.getD 145 [] = zk145 := rfl
theorem x145_0 {w : zWt} {d : Nat} {H : zHt} {K : Int → zHt → Prop} {l1 : Int} {l2 : Int} {l3 : Int}
    (h : zclI w d 81 [zI l1, zI l2, zI 50] H (fun x2 H1 => (x2 = 0 → zclI w d 13 [zR 32, zI 1] H1 (fun x5 H4 => K x5 H4)) ∧ (¬ x2 = 0 → zclI w d 44 [zI l3, zI 6] H1 (fun x7 H6 => (¬ x7 = 0 → zgo w (d + 1) 145 40 [zR 32, zJ, zI l2, zI l3, zI 0, zI 0, zI 0, zI 0, zI l1] [] H6 (zQI K)) ∧ (x7 = 0 → zclI w d 13 [zR 32, zI 1] H6 (fun x10 H9 => K x10 H9)))))) :
    zclI w (d + 1) 145 [zR 32, zI l1, zI l2, zI l3] H K := by
  show zgo w (d + 1) 145 0 [zR 32, zI l1, zI l2, zI l3, zJ, zJ, zJ, zJ, zJ] [] H (zQI K)
  refine g_il zp145 rfl rfl rfl ?_
  refine g_il zp145 rfl rfl rfl ?_
  refine g_ic zp145 rfl rfl ?_
  refine g_callI (as := [zI l1, zI l2, zI 50]) (rest := []) zp145 rfl rfl (Nat.succ_pos _) rfl rfl (Nat.le_of_ble_eq_true rfl) (Nat.le_of_ble_eq_true rfl) rfl rfl h (fun x2 H1 h => ?_)
  refine g_if zp145 rfl rfl zc0 (fun c3 => ?_) (fun c3 => ?_)
  · replace h := h.1 c3
    refine g_al zp145 rfl rfl rfl (by decide) ?_
    refine g_ic zp145 rfl rfl ?_
    refine g_callI (as := [zR 32, zI 1]) (rest := []) zp145 rfl rfl (Nat.succ_pos _) rfl rfl (Nat.le_of_ble_eq_true rfl) (Nat.le_of_ble_eq_true rfl) rfl rfl h (fun x5 H4 h => ?_)
    exact g_ret zp145 rfl rfl ⟨_, rfl, h⟩
  · replace h := h.2 c3
    refine g_il zp145 rfl rfl rfl ?_
    refine g_ic zp145 rfl rfl ?_
    refine g_callI (as := [zI l3, zI 6]) (rest := []) zp145 rfl rfl (Nat.succ_pos _) rfl rfl (Nat.le_of_ble_eq_true rfl) (Nat.le_of_ble_eq_true rfl) rfl rfl h (fun x7 H6 h => ?_)
    refine g_if zp145 rfl rfl zc1 (fun c8 => ?_) (fun c8 => ?_)
    · replace h := h.1 c8
      refine g_ic zp145 rfl rfl ?_
      refine g_is (ls' := [zR 32, zI l1, zI l2, zI l3, zI 0, zJ, zJ, zJ, zJ]) zp145 rfl rfl (Nat.le_of_ble_eq_true rfl) rfl ?_
      refine g_ic zp145 rfl rfl ?_
      refine g_is (ls' := [zR 32, zI l1, zI l2, zI l3, zI 0, zI 0, zJ, zJ, zJ]) zp145 rfl rfl (Nat.le_of_ble_eq_true rfl) rfl ?_
      refine g_ic zp145 rfl rfl ?_
      refine g_is (ls' := [zR 32, zI l1, zI l2, zI l3, zI 0, zI 0, zI 0, zJ, zJ]) zp145 rfl rfl (Nat.le_of_ble_eq_true rfl) rfl ?_
      refine g_ic zp145 rfl rfl ?_
      refine g_is (ls' := [zR 32, zI l1, zI l2, zI l3, zI 0, zI 0, zI 0, zI 0, zJ]) zp145 rfl rfl (Nat.le_of_ble_eq_true rfl) rfl ?_
      refine g_il zp145 rfl rfl rfl ?_
      refine g_is (ls' := [zR 32, zI l1, zI l2, zI l3, zI 0, zI 0, zI 0, zI 0, zI l1]) zp145 rfl rfl (Nat.le_of_ble_eq_true rfl) rfl ?_
      exact g_weak (ls' := [zR 32, zJ, zI l2, zI l3, zI 0, zI 0, zI 0, zI 0, zI l1]) ⟨Or.inr rfl, Or.inl rfl, Or.inr rfl, Or.inr rfl, Or.inr rfl, Or.inr rfl, Or.inr rfl, Or.inr rfl, Or.inr rfl, trivial⟩ h
    · replace h := h.2 c8
      refine g_al zp145 rfl rfl rfl (by decide) ?_
      refine g_ic zp145 rfl rfl ?_
      refine g_callI (as := [zR 32, zI 1]) (rest := []) zp145 rfl rfl (Nat.succ_pos _) rfl rfl (Nat.le_of_ble_eq_true rfl) (Nat.le_of_ble_eq_true rfl) rfl rfl h (fun x10 H9 h => ?_)
      exact g_ret zp145 rfl rfl ⟨_, rfl, h⟩
theorem x145_40 {w : zWt} {d : Nat} {H : zHt} {K : Int → zHt → Prop} {l2 : Int} {l3 : Int} {l4 : Int} {l5 : Int} {l6 : Int} {l7 : Int} {l8 : Int}
    (h : (l2 < l8 → (l3 < 4 ∨ 7 ≤ l3 → zclI w d 39 [zR 32, zI l4] H (fun x3 H2 => K x3 H2)) ∧ (l3 = 4 → zclI w d 39 [zR 32, zI l6] H (fun x5 H4 => K x5 H4)) ∧ (l3 = 5 → zclI w d 39 [zR 32, zI l5] H (fun x7 H6 => K x7 H6)) ∧ (l3 = 6 → zclI w d 39 [zR 32, zI l7] H (fun x9 H8 => K x9 H8))) ∧ (l8 ≤ l2 → zclV w d 109 [zR 46, zI l8, zI (H 40 4), zR 40, zR 36] H (fun H10 => (¬ (H10 46 2) = l3 → zgo w (d + 1) 145 88 [zR 32, zJ, zI l2, zI l3, zJ, zI l5, zI l6, zI l7, zI l8] [zI 0, zI l4] H10 (zQI K)) ∧ ((H10 46 2) = l3 → zgo w (d + 1) 145 88 [zR 32, zJ, zI l2, zI l3, zJ, zI l5, zI l6, zI l7, zI l8] [zI 1, zI l4] H10 (zQI K))))) :
    zgo w (d + 1) 145 40 [zR 32, zJ, zI l2, zI l3, zI l4, zI l5, zI l6, zI l7, zI l8] [] H (zQI K) := by
  refine g_il zp145 rfl rfl rfl ?_
  refine g_il zp145 rfl rfl rfl ?_
  refine g_icmp zp145 rfl rfl zc4 (fun c1 => ?_) (fun c1 => ?_)
  · replace h := h.1 c1
    refine g_il zp145 rfl rfl rfl ?_
    rcases Classical.em (l3 < 4 ∨ 7 ≤ l3) with c | c
    · refine g_tabO zp145 rfl c ?_
      replace h := h.1 c
      refine g_al zp145 rfl rfl rfl (by decide) ?_
      refine g_il zp145 rfl rfl rfl ?_
      refine g_callI (as := [zR 32, zI l4]) (rest := []) zp145 rfl rfl (Nat.succ_pos _) rfl rfl (Nat.le_of_ble_eq_true rfl) (Nat.le_of_ble_eq_true rfl) rfl rfl h (fun x3 H2 h => ?_)
      exact g_ret zp145 rfl rfl ⟨_, rfl, h⟩
    · replace h := h.2
      have hh : l3 = 4 ∨ l3 = 5 ∨ l3 = 6 := by omega
      rcases hh with c | c | c
      · replace h := h.1 c
        refine g_tabE (z := 4) zp145 rfl c (by decide) rfl ?_
        refine g_al zp145 rfl rfl rfl (by decide) ?_
        refine g_il zp145 rfl rfl rfl ?_
        refine g_callI (as := [zR 32, zI l6]) (rest := []) zp145 rfl rfl (Nat.succ_pos _) rfl rfl (Nat.le_of_ble_eq_true rfl) (Nat.le_of_ble_eq_true rfl) rfl rfl h (fun x5 H4 h => ?_)
        exact g_ret zp145 rfl rfl ⟨_, rfl, h⟩
      · replace h := h.2.1 c
        refine g_tabE (z := 5) zp145 rfl c (by decide) rfl ?_
        refine g_al zp145 rfl rfl rfl (by decide) ?_
        refine g_il zp145 rfl rfl rfl ?_
        refine g_callI (as := [zR 32, zI l5]) (rest := []) zp145 rfl rfl (Nat.succ_pos _) rfl rfl (Nat.le_of_ble_eq_true rfl) (Nat.le_of_ble_eq_true rfl) rfl rfl h (fun x7 H6 h => ?_)
        exact g_ret zp145 rfl rfl ⟨_, rfl, h⟩
      · replace h := h.2.2 c
        refine g_tabE (z := 6) zp145 rfl c (by decide) rfl ?_
        refine g_al zp145 rfl rfl rfl (by decide) ?_
        refine g_il zp145 rfl rfl rfl ?_
        refine g_callI (as := [zR 32, zI l7]) (rest := []) zp145 rfl rfl (Nat.succ_pos _) rfl rfl (Nat.le_of_ble_eq_true rfl) (Nat.le_of_ble_eq_true rfl) rfl rfl h (fun x9 H8 h => ?_)
        exact g_ret zp145 rfl rfl ⟨_, rfl, h⟩
  · replace h := h.2 c1
    refine g_al zp145 rfl rfl rfl (by decide) ?_
    refine g_get (v := zR 46) zp145 rfl rfl rfl ⟨rfl, by decide, (by decide)⟩ rfl ?_
    refine g_il zp145 rfl rfl rfl ?_
    refine g_al zp145 rfl rfl rfl (by decide) ?_
    refine g_get (v := zR 40) zp145 rfl rfl rfl ⟨rfl, by decide, (by decide)⟩ rfl ?_
    refine g_get (v := zI (H 40 4)) zp145 rfl rfl rfl ⟨rfl, by decide, (by decide)⟩ rfl ?_
    refine g_al zp145 rfl rfl rfl (by decide) ?_
    refine g_get (v := zR 40) zp145 rfl rfl rfl ⟨rfl, by decide, (by decide)⟩ rfl ?_
    refine g_al zp145 rfl rfl rfl (by decide) ?_
    refine g_get (v := zR 36) zp145 rfl rfl rfl ⟨rfl, by decide, (by decide)⟩ rfl ?_
    refine g_callV (as := [zR 46, zI l8, zI (H 40 4), zR 40, zR 36]) (rest := []) zp145 rfl rfl (Nat.succ_pos _) rfl rfl (Nat.le_of_ble_eq_true rfl) (Nat.le_of_ble_eq_true rfl) rfl rfl h (fun H10 h => ?_)
    refine g_il zp145 rfl rfl rfl ?_
    refine g_al zp145 rfl rfl rfl (by decide) ?_
    refine g_get (v := zR 46) zp145 rfl rfl rfl ⟨rfl, by decide, (by decide)⟩ rfl ?_
    refine g_get (v := zI (H10 46 2)) zp145 rfl rfl rfl ⟨rfl, by decide, (by decide)⟩ rfl ?_
    refine g_il zp145 rfl rfl rfl ?_
    refine g_icmp zp145 rfl rfl zc1 (fun c12 => ?_) (fun c12 => ?_)
    · replace h := h.1 c12
      refine g_ic zp145 rfl rfl ?_
      exact g_weak (ls' := [zR 32, zJ, zI l2, zI l3, zJ, zI l5, zI l6, zI l7, zI l8]) ⟨Or.inr rfl, Or.inr rfl, Or.inr rfl, Or.inr rfl, Or.inl rfl, Or.inr rfl, Or.inr rfl, Or.inr rfl, Or.inr rfl, trivial⟩ h
    · replace h := h.2 c12
      refine g_ic zp145 rfl rfl ?_
      refine g_goto zp145 rfl ?_
      exact g_weak (ls' := [zR 32, zJ, zI l2, zI l3, zJ, zI l5, zI l6, zI l7, zI l8]) ⟨Or.inr rfl, Or.inr rfl, Or.inr rfl, Or.inr rfl, Or.inl rfl, Or.inr rfl, Or.inr rfl, Or.inr rfl, Or.inr rfl, trivial⟩ h
theorem x145_88 {w : zWt} {d : Nat} {H : zHt} {K : Int → zHt → Prop} {l2 : Int} {l3 : Int} {l5 : Int} {l6 : Int} {l7 : Int} {l8 : Int} {s0 : Int} {s1 : Int}
    (h : ((H 46 1) ≤ l5 → zclI w d 116 [zR 46] H (fun x3 H2 => (0 ≤ x3 ∧ x3 < 101) ∧ zgo w (d + 1) 145 40 [zR 32, zJ, zI l2, zI l3, zI (w32 (s0 + s1)), zI l5, zI l6, zI (if l7 < H2 47 x3 then H2 47 x3 else l7), zI (w32 (l8 + 1))] [] H2 (zQI K))) ∧ (l5 < (H 46 1) → zclI w d 116 [zR 46] H (fun x6 H5 => (0 ≤ x6 ∧ x6 < 101) ∧ zgo w (d + 1) 145 40 [zR 32, zJ, zI l2, zI l3, zI (w32 (s0 + s1)), zI (H 46 1), zI l8, zI (if l7 < H5 47 x6 then H5 47 x6 else l7), zI (w32 (l8 + 1))] [] H5 (zQI K)))) :
    zgo w (d + 1) 145 88 [zR 32, zJ, zI l2, zI l3, zJ, zI l5, zI l6, zI l7, zI l8] [zI s1, zI s0] H (zQI K) := by
  refine g_ar (r := w32 (s0 + s1)) zp145 rfl rfl rfl ?_
  refine g_is (ls' := [zR 32, zJ, zI l2, zI l3, zI (w32 (s0 + s1)), zI l5, zI l6, zI l7, zI l8]) zp145 rfl rfl (Nat.le_of_ble_eq_true rfl) rfl ?_
  refine g_al zp145 rfl rfl rfl (by decide) ?_
  refine g_get (v := zR 46) zp145 rfl rfl rfl ⟨rfl, by decide, (by decide)⟩ rfl ?_
  refine g_get (v := zI (H 46 1)) zp145 rfl rfl rfl ⟨rfl, by decide, (by decide)⟩ rfl ?_
  refine g_il zp145 rfl rfl rfl ?_
  refine g_icmp zp145 rfl rfl zc5 (fun c1 => ?_) (fun c1 => ?_)
  · replace h := h.1 c1
    refine g_il zp145 rfl rfl rfl ?_
    refine g_al zp145 rfl rfl rfl (by decide) ?_
    refine g_get (v := zR 46) zp145 rfl rfl rfl ⟨rfl, by decide, (by decide)⟩ rfl ?_
    refine g_get (v := zR 47) zp145 rfl rfl rfl ⟨rfl, by decide, (by decide)⟩ rfl ?_
    refine g_al zp145 rfl rfl rfl (by decide) ?_
    refine g_get (v := zR 46) zp145 rfl rfl rfl ⟨rfl, by decide, (by decide)⟩ rfl ?_
    refine g_callI (as := [zR 46]) (rest := [zR 47, zI l7]) zp145 rfl rfl (Nat.succ_pos _) rfl rfl (Nat.le_of_ble_eq_true rfl) (Nat.le_of_ble_eq_true rfl) rfl rfl h (fun x3 H2 h => ?_)
    obtain ⟨c4, h⟩ := h
    refine g_ald (v := zI (H2 47 x3)) zp145 rfl rfl rfl rfl c4 rfl ?_
    refine g_mmax zp145 rfl rfl (Nat.le_of_ble_eq_true rfl) ?_
    refine g_is (ls' := [zR 32, zJ, zI l2, zI l3, zI (w32 (s0 + s1)), zI l5, zI l6, zI (if l7 < H2 47 x3 then H2 47 x3 else l7), zI l8]) zp145 rfl rfl (Nat.le_of_ble_eq_true rfl) rfl ?_
    refine g_inc (ls' := [zR 32, zJ, zI l2, zI l3, zI (w32 (s0 + s1)), zI l5, zI l6, zI (if l7 < H2 47 x3 then H2 47 x3 else l7), zI (w32 (l8 + 1))]) zp145 rfl rfl rfl rfl ?_
    refine g_goto zp145 rfl ?_
    exact g_weak (ls' := [zR 32, zJ, zI l2, zI l3, zI (w32 (s0 + s1)), zI l5, zI l6, zI (if l7 < H2 47 x3 then H2 47 x3 else l7), zI (w32 (l8 + 1))]) ⟨Or.inr rfl, Or.inr rfl, Or.inr rfl, Or.inr rfl, Or.inr rfl, Or.inr rfl, Or.inr rfl, Or.inr rfl, Or.inr rfl, trivial⟩ h
  · replace h := h.2 c1
    refine g_al zp145 rfl rfl rfl (by decide) ?_
    refine g_get (v := zR 46) zp145 rfl rfl rfl ⟨rfl, by decide, (by decide)⟩ rfl ?_
    refine g_get (v := zI (H 46 1)) zp145 rfl rfl rfl ⟨rfl, by decide, (by decide)⟩ rfl ?_
    refine g_is (ls' := [zR 32, zJ, zI l2, zI l3, zI (w32 (s0 + s1)), zI (H 46 1), zI l6, zI l7, zI l8]) zp145 rfl rfl (Nat.le_of_ble_eq_true rfl) rfl ?_
    refine g_il zp145 rfl rfl rfl ?_
    refine g_is (ls' := [zR 32, zJ, zI l2, zI l3, zI (w32 (s0 + s1)), zI (H 46 1), zI l8, zI l7, zI l8]) zp145 rfl rfl (Nat.le_of_ble_eq_true rfl) rfl ?_
    refine g_il zp145 rfl rfl rfl ?_
    refine g_al zp145 rfl rfl rfl (by decide) ?_
    refine g_get (v := zR 46) zp145 rfl rfl rfl ⟨rfl, by decide, (by decide)⟩ rfl ?_
    refine g_get (v := zR 47) zp145 rfl rfl rfl ⟨rfl, by decide, (by decide)⟩ rfl ?_
    refine g_al zp145 rfl rfl rfl (by decide) ?_
    refine g_get (v := zR 46) zp145 rfl rfl rfl ⟨rfl, by decide, (by decide)⟩ rfl ?_
    refine g_callI (as := [zR 46]) (rest := [zR 47, zI l7]) zp145 rfl rfl (Nat.succ_pos _) rfl rfl (Nat.le_of_ble_eq_true rfl) (Nat.le_of_ble_eq_true rfl) rfl rfl h (fun x6 H5 h => ?_)
    obtain ⟨c7, h⟩ := h
    refine g_ald (v := zI (H5 47 x6)) zp145 rfl rfl rfl rfl c7 rfl ?_
    refine g_mmax zp145 rfl rfl (Nat.le_of_ble_eq_true rfl) ?_
    refine g_is (ls' := [zR 32, zJ, zI l2, zI l3, zI (w32 (s0 + s1)), zI (H 46 1), zI l8, zI (if l7 < H5 47 x6 then H5 47 x6 else l7), zI l8]) zp145 rfl rfl (Nat.le_of_ble_eq_true rfl) rfl ?_
    refine g_inc (ls' := [zR 32, zJ, zI l2, zI l3, zI (w32 (s0 + s1)), zI (H 46 1), zI l8, zI (if l7 < H5 47 x6 then H5 47 x6 else l7), zI (w32 (l8 + 1))]) zp145 rfl rfl rfl rfl ?_
    refine g_goto zp145 rfl ?_
    exact g_weak (ls' := [zR 32, zJ, zI l2, zI l3, zI (w32 (s0 + s1)), zI (H 46 1), zI l8, zI (if l7 < H5 47 x6 then H5 47 x6 else l7), zI (w32 (l8 + 1))]) ⟨Or.inr rfl, Or.inr rfl, Or.inr rfl, Or.inr rfl, Or.inr rfl, Or.inr rfl, Or.inr rfl, Or.inr rfl, Or.inr rfl, trivial⟩ h
theorem zp146 : zprog.getD 146 [] = zk146 := rfl
theorem x146_0 {w : zWt} {d : Nat} {H : zHt} {K : Int → zHt → Prop} {l1 : Int} {l2 : Int} {l3 : Int}
    (h : zclI w d 81 [zI l1, zI l2, zI 50] H (fun x2 H1 => (x2 = 0 → zclI w d 13 [zR 32, zI 1] H1 (fun x5 H4 => K x5 H4)) ∧ (¬ x2 = 0 → (1 ≤ l3 → zgo w (d + 1) 146 27 [zR 32, zJ, zI l2, zI l3, zI 0, zI l1] [] H1 (zQI K)) ∧ (l3 < 1 → zclI w d 13 [zR 32, zI 1] H1 (fun x8 H7 => K x8 H7))))) :
    zclI w (d + 1) 146 [zR 32, zI l1, zI l2, zI l3] H K := by
  show zgo w (d + 1) 146 0 [zR 32, zI l1, zI l2, zI l3, zJ, zJ] [] H (zQI K)
  refine g_il zp146 rfl rfl rfl ?_
  refine g_il zp146 rfl rfl rfl ?_
  refine g_ic zp146 rfl rfl ?_
  refine g_callI (as := [zI l1, zI l2, zI 50]) (rest := []) zp146 rfl rfl (Nat.succ_pos _) rfl rfl (Nat.le_of_ble_eq_true rfl) (Nat.le_of_ble_eq_true rfl) rfl rfl h (fun x2 H1 h => ?_)
  refine g_if zp146 rfl rfl zc0 (fun c3 => ?_) (fun c3 => ?_)
  · replace h := h.1 c3
    refine g_al zp146 rfl rfl rfl (by decide) ?_
    refine g_ic zp146 rfl rfl ?_
    refine g_callI (as := [zR 32, zI 1]) (rest := []) zp146 rfl rfl (Nat.succ_pos _) rfl rfl (Nat.le_of_ble_eq_true rfl) (Nat.le_of_ble_eq_true rfl) rfl rfl h (fun x5 H4 h => ?_)
    exact g_ret zp146 rfl rfl ⟨_, rfl, h⟩
  · replace h := h.2 c3
    refine g_il zp146 rfl rfl rfl ?_
    refine g_ic zp146 rfl rfl ?_
    refine g_icmp zp146 rfl rfl zc3 (fun c6 => ?_) (fun c6 => ?_)
    · replace h := h.1 c6
      refine g_ic zp146 rfl rfl ?_
      refine g_is (ls' := [zR 32, zI l1, zI l2, zI l3, zI 0, zJ]) zp146 rfl rfl (Nat.le_of_ble_eq_true rfl) rfl ?_
      refine g_il zp146 rfl rfl rfl ?_
      refine g_is (ls' := [zR 32, zI l1, zI l2, zI l3, zI 0, zI l1]) zp146 rfl rfl (Nat.le_of_ble_eq_true rfl) rfl ?_
      exact g_weak (ls' := [zR 32, zJ, zI l2, zI l3, zI 0, zI l1]) ⟨Or.inr rfl, Or.inl rfl, Or.inr rfl, Or.inr rfl, Or.inr rfl, Or.inr rfl, trivial⟩ h
    · replace h := h.2 c6
      refine g_al zp146 rfl rfl rfl (by decide) ?_
      refine g_ic zp146 rfl rfl ?_
      refine g_callI (as := [zR 32, zI 1]) (rest := []) zp146 rfl rfl (Nat.succ_pos _) rfl rfl (Nat.le_of_ble_eq_true rfl) (Nat.le_of_ble_eq_true rfl) rfl rfl h (fun x8 H7 h => ?_)
      exact g_ret zp146 rfl rfl ⟨_, rfl, h⟩
theorem x146_27 {w : zWt} {d : Nat} {H : zHt} {K : Int → zHt → Prop} {l2 : Int} {l3 : Int} {l4 : Int} {l5 : Int}
    (h : (l2 < l5 → zclI w d 39 [zR 32, zI l4] H (fun x3 H2 => K x3 H2)) ∧ (l5 ≤ l2 → zclV w d 109 [zR 46, zI l5, zI (H 40 4), zR 40, zR 36] H (fun H4 => (¬ (H4 46 1) = l3 → zgo w (d + 1) 146 27 [zR 32, zJ, zI l2, zI l3, zI (w32 (l4 + 0)), zI (w32 (l5 + 1))] [] H4 (zQI K)) ∧ ((H4 46 1) = l3 → zgo w (d + 1) 146 27 [zR 32, zJ, zI l2, zI l3, zI (w32 (l4 + 1)), zI (w32 (l5 + 1))] [] H4 (zQI K))))) :
    zgo w (d + 1) 146 27 [zR 32, zJ, zI l2, zI l3, zI l4, zI l5] [] H (zQI K) := by
  refine g_il zp146 rfl rfl rfl ?_
  refine g_il zp146 rfl rfl rfl ?_
  refine g_icmp zp146 rfl rfl zc4 (fun c1 => ?_) (fun c1 => ?_)
  · replace h := h.1 c1
    refine g_al zp146 rfl rfl rfl (by decide) ?_
    refine g_il zp146 rfl rfl rfl ?_
    refine g_callI (as := [zR 32, zI l4]) (rest := []) zp146 rfl rfl (Nat.succ_pos _) rfl rfl (Nat.le_of_ble_eq_true rfl) (Nat.le_of_ble_eq_true rfl) rfl rfl h (fun x3 H2 h => ?_)
    exact g_ret zp146 rfl rfl ⟨_, rfl, h⟩
  · replace h := h.2 c1
    refine g_al zp146 rfl rfl rfl (by decide) ?_
    refine g_get (v := zR 46) zp146 rfl rfl rfl ⟨rfl, by decide, (by decide)⟩ rfl ?_
    refine g_il zp146 rfl rfl rfl ?_
    refine g_al zp146 rfl rfl rfl (by decide) ?_
    refine g_get (v := zR 40) zp146 rfl rfl rfl ⟨rfl, by decide, (by decide)⟩ rfl ?_
    refine g_get (v := zI (H 40 4)) zp146 rfl rfl rfl ⟨rfl, by decide, (by decide)⟩ rfl ?_
    refine g_al zp146 rfl rfl rfl (by decide) ?_
    refine g_get (v := zR 40) zp146 rfl rfl rfl ⟨rfl, by decide, (by decide)⟩ rfl ?_
    refine g_al zp146 rfl rfl rfl (by decide) ?_
    refine g_get (v := zR 36) zp146 rfl rfl rfl ⟨rfl, by decide, (by decide)⟩ rfl ?_
    refine g_callV (as := [zR 46, zI l5, zI (H 40 4), zR 40, zR 36]) (rest := []) zp146 rfl rfl (Nat.succ_pos _) rfl rfl (Nat.le_of_ble_eq_true rfl) (Nat.le_of_ble_eq_true rfl) rfl rfl h (fun H4 h => ?_)
    refine g_il zp146 rfl rfl rfl ?_
    refine g_al zp146 rfl rfl rfl (by decide) ?_
    refine g_get (v := zR 46) zp146 rfl rfl rfl ⟨rfl, by decide, (by decide)⟩ rfl ?_
    refine g_get (v := zI (H4 46 1)) zp146 rfl rfl rfl ⟨rfl, by decide, (by decide)⟩ rfl ?_
    refine g_il zp146 rfl rfl rfl ?_
    refine g_icmp zp146 rfl rfl zc1 (fun c6 => ?_) (fun c6 => ?_)
    · replace h := h.1 c6
      refine g_ic zp146 rfl rfl ?_
      refine g_ar (r := w32 (l4 + 0)) zp146 rfl rfl rfl ?_
      refine g_is (ls' := [zR 32, zJ, zI l2, zI l3, zI (w32 (l4 + 0)), zI l5]) zp146 rfl rfl (Nat.le_of_ble_eq_true rfl) rfl ?_
      refine g_inc (ls' := [zR 32, zJ, zI l2, zI l3, zI (w32 (l4 + 0)), zI (w32 (l5 + 1))]) zp146 rfl rfl rfl rfl ?_
      refine g_goto zp146 rfl ?_
      exact g_weak (ls' := [zR 32, zJ, zI l2, zI l3, zI (w32 (l4 + 0)), zI (w32 (l5 + 1))]) ⟨Or.inr rfl, Or.inr rfl, Or.inr rfl, Or.inr rfl, Or.inr rfl, Or.inr rfl, trivial⟩ h
    · replace h := h.2 c6
      refine g_ic zp146 rfl rfl ?_
      refine g_goto zp146 rfl ?_
      refine g_ar (r := w32 (l4 + 1)) zp146 rfl rfl rfl ?_
      refine g_is (ls' := [zR 32, zJ, zI l2, zI l3, zI (w32 (l4 + 1)), zI l5]) zp146 rfl rfl (Nat.le_of_ble_eq_true rfl) rfl ?_
      refine g_inc (ls' := [zR 32, zJ, zI l2, zI l3, zI (w32 (l4 + 1)), zI (w32 (l5 + 1))]) zp146 rfl rfl rfl rfl ?_
      refine g_goto zp146 rfl ?_
      exact g_weak (ls' := [zR 32, zJ, zI l2, zI l3, zI (w32 (l4 + 1)), zI (w32 (l5 + 1))]) ⟨Or.inr rfl, Or.inr rfl, Or.inr rfl, Or.inr rfl, Or.inr rfl, Or.inr rfl, trivial⟩ h
theorem zp147 : zprog.getD 147 [] = zk147 := rfl
theorem x147_0 {w : zWt} {d : Nat} {H : zHt} {K : Int → zHt → Prop} {l1 : Int} {l2 : Int} {l3 : Int}
    (h : zclI w d 81 [zI l1, zI l2, zI 200] H (fun x2 H1 => (x2 = 0 → zclI w d 13 [zR 32, zI 1] H1 (fun x5 H4 => K x5 H4)) ∧ (¬ x2 = 0 → zclI w d 44 [zI l3, zI 2] H1 (fun x7 H6 => (¬ x7 = 0 → zgo w (d + 1) 147 35 [zR 32, zI l1, zJ, zI l3, zI (w32 ((w32 (l2 - l1)) + 1)), zI 0, zJ, zJ, zJ, zJ] [] H6 (zQI K)) ∧ (x7 = 0 → zclI w d 13 [zR 32, zI 1] H6 (fun x10 H9 => K x10 H9)))))) :
    zclI w (d + 1) 147 [zR 32, zI l1, zI l2, zI l3] H K := by
  show zgo w (d + 1) 147 0 [zR 32, zI l1, zI l2, zI l3, zJ, zJ, zJ, zJ, zJ, zJ] [] H (zQI K)
  refine g_il zp147 rfl rfl rfl ?_
  refine g_il zp147 rfl rfl rfl ?_
  refine g_ic zp147 rfl rfl ?_
  refine g_callI (as := [zI l1, zI l2, zI 200]) (rest := []) zp147 rfl rfl (Nat.succ_pos _) rfl rfl (Nat.le_of_ble_eq_true rfl) (Nat.le_of_ble_eq_true rfl) rfl rfl h (fun x2 H1 h => ?_)
  refine g_if zp147 rfl rfl zc0 (fun c3 => ?_) (fun c3 => ?_)
  · replace h := h.1 c3
    refine g_al zp147 rfl rfl rfl (by decide) ?_
    refine g_ic zp147 rfl rfl ?_
    refine g_callI (as := [zR 32, zI 1]) (rest := []) zp147 rfl rfl (Nat.succ_pos _) rfl rfl (Nat.le_of_ble_eq_true rfl) (Nat.le_of_ble_eq_true rfl) rfl rfl h (fun x5 H4 h => ?_)
    exact g_ret zp147 rfl rfl ⟨_, rfl, h⟩
  · replace h := h.2 c3
    refine g_il zp147 rfl rfl rfl ?_
    refine g_ic zp147 rfl rfl ?_
    refine g_callI (as := [zI l3, zI 2]) (rest := []) zp147 rfl rfl (Nat.succ_pos _) rfl rfl (Nat.le_of_ble_eq_true rfl) (Nat.le_of_ble_eq_true rfl) rfl rfl h (fun x7 H6 h => ?_)
    refine g_if zp147 rfl rfl zc1 (fun c8 => ?_) (fun c8 => ?_)
    · replace h := h.1 c8
      refine g_il zp147 rfl rfl rfl ?_
      refine g_il zp147 rfl rfl rfl ?_
      refine g_ar (r := w32 (l2 - l1)) zp147 rfl rfl rfl ?_
      refine g_ic zp147 rfl rfl ?_
      refine g_ar (r := w32 ((w32 (l2 - l1)) + 1)) zp147 rfl rfl rfl ?_
      refine g_is (ls' := [zR 32, zI l1, zI l2, zI l3, zI (w32 ((w32 (l2 - l1)) + 1)), zJ, zJ, zJ, zJ, zJ]) zp147 rfl rfl (Nat.le_of_ble_eq_true rfl) rfl ?_
      refine g_ic zp147 rfl rfl ?_
      refine g_is (ls' := [zR 32, zI l1, zI l2, zI l3, zI (w32 ((w32 (l2 - l1)) + 1)), zI 0, zJ, zJ, zJ, zJ]) zp147 rfl rfl (Nat.le_of_ble_eq_true rfl) rfl ?_
      exact g_weak (ls' := [zR 32, zI l1, zJ, zI l3, zI (w32 ((w32 (l2 - l1)) + 1)), zI 0, zJ, zJ, zJ, zJ]) ⟨Or.inr rfl, Or.inr rfl, Or.inl rfl, Or.inr rfl, Or.inr rfl, Or.inr rfl, Or.inr rfl, Or.inr rfl, Or.inr rfl, Or.inr rfl, trivial⟩ h
    · replace h := h.2 c8
      refine g_al zp147 rfl rfl rfl (by decide) ?_
      refine g_ic zp147 rfl rfl ?_
      refine g_callI (as := [zR 32, zI 1]) (rest := []) zp147 rfl rfl (Nat.succ_pos _) rfl rfl (Nat.le_of_ble_eq_true rfl) (Nat.le_of_ble_eq_true rfl) rfl rfl h (fun x10 H9 h => ?_)
      exact g_ret zp147 rfl rfl ⟨_, rfl, h⟩
theorem x147_35 {w : zWt} {d : Nat} {H : zHt} {K : Int → zHt → Prop} {l1 : Int} {l3 : Int} {l4 : Int} {l5 : Int}
    (h : (l4 ≤ l5 → zgo w (d + 1) 147 88 [zR 32, zI l1, zJ, zI l3, zI l4, zI 0, zI 0, zI 0, zI 0, zJ] [] H (zQI K)) ∧ (l5 < l4 → (501 ≤ l5 → zgo w (d + 1) 147 88 [zR 32, zI l1, zJ, zI l3, zI l4, zI 0, zI 0, zI 0, zI 0, zJ] [] H (zQI K)) ∧ (l5 < 501 → zclI w d 148 [zR 36, zI (w32 (l1 + l5))] H (fun x4 H3 => (0 ≤ l5 ∧ l5 < 501) ∧ zgo w (d + 1) 147 35 [zR 32, zI l1, zJ, zI l3, zI l4, zI (w32 (l5 + 1)), zJ, zJ, zJ, zJ] [] (zup H3 51 l5 x4) (zQI K))))) :
    zgo w (d + 1) 147 35 [zR 32, zI l1, zJ, zI l3, zI l4, zI l5, zJ, zJ, zJ, zJ] [] H (zQI K) := by
  refine g_il zp147 rfl rfl rfl ?_
  refine g_il zp147 rfl rfl rfl ?_
  refine g_icmp zp147 rfl rfl zc3 (fun c1 => ?_) (fun c1 => ?_)
  · replace h := h.1 c1
    refine g_ic zp147 rfl rfl ?_
    refine g_is (ls' := [zR 32, zI l1, zJ, zI l3, zI l4, zI 0, zJ, zJ, zJ, zJ]) zp147 rfl rfl (Nat.le_of_ble_eq_true rfl) rfl ?_
    refine g_ic zp147 rfl rfl ?_
    refine g_is (ls' := [zR 32, zI l1, zJ, zI l3, zI l4, zI 0, zI 0, zJ, zJ, zJ]) zp147 rfl rfl (Nat.le_of_ble_eq_true rfl) rfl ?_
    refine g_ic zp147 rfl rfl ?_
    refine g_is (ls' := [zR 32, zI l1, zJ, zI l3, zI l4, zI 0, zI 0, zI 0, zJ, zJ]) zp147 rfl rfl (Nat.le_of_ble_eq_true rfl) rfl ?_
    refine g_ic zp147 rfl rfl ?_
    refine g_is (ls' := [zR 32, zI l1, zJ, zI l3, zI l4, zI 0, zI 0, zI 0, zI 0, zJ]) zp147 rfl rfl (Nat.le_of_ble_eq_true rfl) rfl ?_
    exact g_weak (ls' := [zR 32, zI l1, zJ, zI l3, zI l4, zI 0, zI 0, zI 0, zI 0, zJ]) ⟨Or.inr rfl, Or.inr rfl, Or.inr rfl, Or.inr rfl, Or.inr rfl, Or.inr rfl, Or.inr rfl, Or.inr rfl, Or.inr rfl, Or.inr rfl, trivial⟩ h
  · replace h := h.2 c1
    refine g_il zp147 rfl rfl rfl ?_
    refine g_al zp147 rfl rfl rfl (by decide) ?_
    refine g_get (v := zR 51) zp147 rfl rfl rfl ⟨rfl, by decide, (by decide)⟩ rfl ?_
    refine g_len zp147 rfl rfl rfl (by decide) ?_
    refine g_icmp zp147 rfl rfl zc3 (fun c2 => ?_) (fun c2 => ?_)
    · replace h := h.1 c2
      refine g_ic zp147 rfl rfl ?_
      refine g_is (ls' := [zR 32, zI l1, zJ, zI l3, zI l4, zI 0, zJ, zJ, zJ, zJ]) zp147 rfl rfl (Nat.le_of_ble_eq_true rfl) rfl ?_
      refine g_ic zp147 rfl rfl ?_
      refine g_is (ls' := [zR 32, zI l1, zJ, zI l3, zI l4, zI 0, zI 0, zJ, zJ, zJ]) zp147 rfl rfl (Nat.le_of_ble_eq_true rfl) rfl ?_
      refine g_ic zp147 rfl rfl ?_
      refine g_is (ls' := [zR 32, zI l1, zJ, zI l3, zI l4, zI 0, zI 0, zI 0, zJ, zJ]) zp147 rfl rfl (Nat.le_of_ble_eq_true rfl) rfl ?_
      refine g_ic zp147 rfl rfl ?_
      refine g_is (ls' := [zR 32, zI l1, zJ, zI l3, zI l4, zI 0, zI 0, zI 0, zI 0, zJ]) zp147 rfl rfl (Nat.le_of_ble_eq_true rfl) rfl ?_
      exact g_weak (ls' := [zR 32, zI l1, zJ, zI l3, zI l4, zI 0, zI 0, zI 0, zI 0, zJ]) ⟨Or.inr rfl, Or.inr rfl, Or.inr rfl, Or.inr rfl, Or.inr rfl, Or.inr rfl, Or.inr rfl, Or.inr rfl, Or.inr rfl, Or.inr rfl, trivial⟩ h
    · replace h := h.2 c2
      refine g_al zp147 rfl rfl rfl (by decide) ?_
      refine g_get (v := zR 51) zp147 rfl rfl rfl ⟨rfl, by decide, (by decide)⟩ rfl ?_
      refine g_il zp147 rfl rfl rfl ?_
      refine g_al zp147 rfl rfl rfl (by decide) ?_
      refine g_get (v := zR 36) zp147 rfl rfl rfl ⟨rfl, by decide, (by decide)⟩ rfl ?_
      refine g_il zp147 rfl rfl rfl ?_
      refine g_il zp147 rfl rfl rfl ?_
      refine g_ar (r := w32 (l1 + l5)) zp147 rfl rfl rfl ?_
      refine g_callI (as := [zR 36, zI (w32 (l1 + l5))]) (rest := [zI l5, zR 51]) zp147 rfl rfl (Nat.succ_pos _) rfl rfl (Nat.le_of_ble_eq_true rfl) (Nat.le_of_ble_eq_true rfl) rfl rfl h (fun x4 H3 h => ?_)
      obtain ⟨c5, h⟩ := h
      refine g_iast zp147 rfl rfl rfl (by decide) rfl c5 ?_
      refine g_inc (ls' := [zR 32, zI l1, zJ, zI l3, zI l4, zI (w32 (l5 + 1)), zJ, zJ, zJ, zJ]) zp147 rfl rfl rfl rfl ?_
      refine g_goto zp147 rfl ?_
      exact g_weak (ls' := [zR 32, zI l1, zJ, zI l3, zI l4, zI (w32 (l5 + 1)), zJ, zJ, zJ, zJ]) ⟨Or.inr rfl, Or.inr rfl, Or.inr rfl, Or.inr rfl, Or.inr rfl, Or.inr rfl, Or.inr rfl, Or.inr rfl, Or.inr rfl, Or.inr rfl, trivial⟩ h
theorem x147_88 {w : zWt} {d : Nat} {H : zHt} {K : Int → zHt → Prop} {l1 : Int} {l3 : Int} {l4 : Int} {l5 : Int} {l6 : Int} {l7 : Int} {l8 : Int}
    (h : (l4 ≤ l8 → (¬ l3 = 0 → (¬ l3 = 1 → zclI w d 39 [zR 32, zI l7] H (fun x5 H4 => K x5 H4)) ∧ (l3 = 1 → zclI w d 39 [zR 32, zI l6] H (fun x7 H6 => K x7 H6))) ∧ (l3 = 0 → zclI w d 39 [zR 32, zI l5] H (fun x9 H8 => K x9 H8))) ∧ (l8 < l4 → zclI w d 129 [zR 32, zI l8, zI l8] H (fun x11 H10 => (¬ x11 = 0 → zclI w d 129 [zR 32, zI l4, zI l8] H10 (fun x14 H13 => (x14 ≤ l6 → zgo w (d + 1) 147 88 [zR 32, zI l1, zJ, zI l3, zI l4, zI (w32 (l5 + 0)), zI l6, zI l7, zI (w32 (l8 + 1)), zJ] [] H13 (zQI K)) ∧ (l6 < x14 → zgo w (d + 1) 147 88 [zR 32, zI l1, zJ, zI l3, zI l4, zI (w32 (l5 + 0)), zI x14, zI (w32 (l1 + l8)), zI (w32 (l8 + 1)), zJ] [] H13 (zQI K)))) ∧ (x11 = 0 → zclI w d 129 [zR 32, zI l4, zI l8] H10 (fun x17 H16 => (x17 ≤ l6 → zgo w (d + 1) 147 88 [zR 32, zI l1, zJ, zI l3, zI l4, zI (w32 (l5 + 1)), zI l6, zI l7, zI (w32 (l8 + 1)), zJ] [] H16 (zQI K)) ∧ (l6 < x17 → zgo w (d + 1) 147 88 [zR 32, zI l1, zJ, zI l3, zI l4, zI (w32 (l5 + 1)), zI x17, zI (w32 (l1 + l8)), zI (w32 (l8 + 1)), zJ] [] H16 (zQI K))))))) :
    zgo w (d + 1) 147 88 [zR 32, zI l1, zJ, zI l3, zI l4, zI l5, zI l6, zI l7, zI l8, zJ] [] H (zQI K) := by
  refine g_il zp147 rfl rfl rfl ?_
  refine g_il zp147 rfl rfl rfl ?_
  refine g_icmp zp147 rfl rfl zc3 (fun c1 => ?_) (fun c1 => ?_)
  · replace h := h.1 c1
    refine g_il zp147 rfl rfl rfl ?_
    refine g_if zp147 rfl rfl zc1 (fun c2 => ?_) (fun c2 => ?_)
    · replace h := h.1 c2
      refine g_al zp147 rfl rfl rfl (by decide) ?_
      refine g_il zp147 rfl rfl rfl ?_
      refine g_ic zp147 rfl rfl ?_
      refine g_icmp zp147 rfl rfl zc1 (fun c3 => ?_) (fun c3 => ?_)
      · replace h := h.1 c3
        refine g_il zp147 rfl rfl rfl ?_
        refine g_callI (as := [zR 32, zI l7]) (rest := []) zp147 rfl rfl (Nat.succ_pos _) rfl rfl (Nat.le_of_ble_eq_true rfl) (Nat.le_of_ble_eq_true rfl) rfl rfl h (fun x5 H4 h => ?_)
        exact g_ret zp147 rfl rfl ⟨_, rfl, h⟩
      · replace h := h.2 c3
        refine g_il zp147 rfl rfl rfl ?_
        refine g_goto zp147 rfl ?_
        refine g_callI (as := [zR 32, zI l6]) (rest := []) zp147 rfl rfl (Nat.succ_pos _) rfl rfl (Nat.le_of_ble_eq_true rfl) (Nat.le_of_ble_eq_true rfl) rfl rfl h (fun x7 H6 h => ?_)
        exact g_ret zp147 rfl rfl ⟨_, rfl, h⟩
    · replace h := h.2 c2
      refine g_al zp147 rfl rfl rfl (by decide) ?_
      refine g_il zp147 rfl rfl rfl ?_
      refine g_callI (as := [zR 32, zI l5]) (rest := []) zp147 rfl rfl (Nat.succ_pos _) rfl rfl (Nat.le_of_ble_eq_true rfl) (Nat.le_of_ble_eq_true rfl) rfl rfl h (fun x9 H8 h => ?_)
      exact g_ret zp147 rfl rfl ⟨_, rfl, h⟩
  · replace h := h.2 c1
    refine g_il zp147 rfl rfl rfl ?_
    refine g_al zp147 rfl rfl rfl (by decide) ?_
    refine g_il zp147 rfl rfl rfl ?_
    refine g_il zp147 rfl rfl rfl ?_
    refine g_callI (as := [zR 32, zI l8, zI l8]) (rest := [zI l5]) zp147 rfl rfl (Nat.succ_pos _) rfl rfl (Nat.le_of_ble_eq_true rfl) (Nat.le_of_ble_eq_true rfl) rfl rfl h (fun x11 H10 h => ?_)
    refine g_if zp147 rfl rfl zc1 (fun c12 => ?_) (fun c12 => ?_)
    · replace h := h.1 c12
      refine g_ic zp147 rfl rfl ?_
      refine g_ar (r := w32 (l5 + 0)) zp147 rfl rfl rfl ?_
      refine g_is (ls' := [zR 32, zI l1, zJ, zI l3, zI l4, zI (w32 (l5 + 0)), zI l6, zI l7, zI l8, zJ]) zp147 rfl rfl (Nat.le_of_ble_eq_true rfl) rfl ?_
      refine g_al zp147 rfl rfl rfl (by decide) ?_
      refine g_il zp147 rfl rfl rfl ?_
      refine g_il zp147 rfl rfl rfl ?_
      refine g_callI (as := [zR 32, zI l4, zI l8]) (rest := []) zp147 rfl rfl (Nat.succ_pos _) rfl rfl (Nat.le_of_ble_eq_true rfl) (Nat.le_of_ble_eq_true rfl) rfl rfl h (fun x14 H13 h => ?_)
      refine g_is (ls' := [zR 32, zI l1, zJ, zI l3, zI l4, zI (w32 (l5 + 0)), zI l6, zI l7, zI l8, zI x14]) zp147 rfl rfl (Nat.le_of_ble_eq_true rfl) rfl ?_
      refine g_il zp147 rfl rfl rfl ?_
      refine g_il zp147 rfl rfl rfl ?_
      refine g_icmp zp147 rfl rfl zc5 (fun c15 => ?_) (fun c15 => ?_)
      · replace h := h.1 c15
        refine g_inc (ls' := [zR 32, zI l1, zJ, zI l3, zI l4, zI (w32 (l5 + 0)), zI l6, zI l7, zI (w32 (l8 + 1)), zI x14]) zp147 rfl rfl rfl rfl ?_
        refine g_goto zp147 rfl ?_
        exact g_weak (ls' := [zR 32, zI l1, zJ, zI l3, zI l4, zI (w32 (l5 + 0)), zI l6, zI l7, zI (w32 (l8 + 1)), zJ]) ⟨Or.inr rfl, Or.inr rfl, Or.inr rfl, Or.inr rfl, Or.inr rfl, Or.inr rfl, Or.inr rfl, Or.inr rfl, Or.inr rfl, Or.inl rfl, trivial⟩ h
      · replace h := h.2 c15
        refine g_il zp147 rfl rfl rfl ?_
        refine g_is (ls' := [zR 32, zI l1, zJ, zI l3, zI l4, zI (w32 (l5 + 0)), zI x14, zI l7, zI l8, zI x14]) zp147 rfl rfl (Nat.le_of_ble_eq_true rfl) rfl ?_
        refine g_il zp147 rfl rfl rfl ?_
        refine g_il zp147 rfl rfl rfl ?_
        refine g_ar (r := w32 (l1 + l8)) zp147 rfl rfl rfl ?_
        refine g_is (ls' := [zR 32, zI l1, zJ, zI l3, zI l4, zI (w32 (l5 + 0)), zI x14, zI (w32 (l1 + l8)), zI l8, zI x14]) zp147 rfl rfl (Nat.le_of_ble_eq_true rfl) rfl ?_
        refine g_inc (ls' := [zR 32, zI l1, zJ, zI l3, zI l4, zI (w32 (l5 + 0)), zI x14, zI (w32 (l1 + l8)), zI (w32 (l8 + 1)), zI x14]) zp147 rfl rfl rfl rfl ?_
        refine g_goto zp147 rfl ?_
        exact g_weak (ls' := [zR 32, zI l1, zJ, zI l3, zI l4, zI (w32 (l5 + 0)), zI x14, zI (w32 (l1 + l8)), zI (w32 (l8 + 1)), zJ]) ⟨Or.inr rfl, Or.inr rfl, Or.inr rfl, Or.inr rfl, Or.inr rfl, Or.inr rfl, Or.inr rfl, Or.inr rfl, Or.inr rfl, Or.inl rfl, trivial⟩ h
    · replace h := h.2 c12
      refine g_ic zp147 rfl rfl ?_
      refine g_goto zp147 rfl ?_
      refine g_ar (r := w32 (l5 + 1)) zp147 rfl rfl rfl ?_
      refine g_is (ls' := [zR 32, zI l1, zJ, zI l3, zI l4, zI (w32 (l5 + 1)), zI l6, zI l7, zI l8, zJ]) zp147 rfl rfl (Nat.le_of_ble_eq_true rfl) rfl ?_
      refine g_al zp147 rfl rfl rfl (by decide) ?_
      refine g_il zp147 rfl rfl rfl ?_
      refine g_il zp147 rfl rfl rfl ?_
      refine g_callI (as := [zR 32, zI l4, zI l8]) (rest := []) zp147 rfl rfl (Nat.succ_pos _) rfl rfl (Nat.le_of_ble_eq_true rfl) (Nat.le_of_ble_eq_true rfl) rfl rfl h (fun x17 H16 h => ?_)
      refine g_is (ls' := [zR 32, zI l1, zJ, zI l3, zI l4, zI (w32 (l5 + 1)), zI l6, zI l7, zI l8, zI x17]) zp147 rfl rfl (Nat.le_of_ble_eq_true rfl) rfl ?_
      refine g_il zp147 rfl rfl rfl ?_
      refine g_il zp147 rfl rfl rfl ?_
      refine g_icmp zp147 rfl rfl zc5 (fun c18 => ?_) (fun c18 => ?_)
      · replace h := h.1 c18
        refine g_inc (ls' := [zR 32, zI l1, zJ, zI l3, zI l4, zI (w32 (l5 + 1)), zI l6, zI l7, zI (w32 (l8 + 1)), zI x17]) zp147 rfl rfl rfl rfl ?_
        refine g_goto zp147 rfl ?_
        exact g_weak (ls' := [zR 32, zI l1, zJ, zI l3, zI l4, zI (w32 (l5 + 1)), zI l6, zI l7, zI (w32 (l8 + 1)), zJ]) ⟨Or.inr rfl, Or.inr rfl, Or.inr rfl, Or.inr rfl, Or.inr rfl, Or.inr rfl, Or.inr rfl, Or.inr rfl, Or.inr rfl, Or.inl rfl, trivial⟩ h
      · replace h := h.2 c18
        refine g_il zp147 rfl rfl rfl ?_
        refine g_is (ls' := [zR 32, zI l1, zJ, zI l3, zI l4, zI (w32 (l5 + 1)), zI x17, zI l7, zI l8, zI x17]) zp147 rfl rfl (Nat.le_of_ble_eq_true rfl) rfl ?_
        refine g_il zp147 rfl rfl rfl ?_
        refine g_il zp147 rfl rfl rfl ?_
        refine g_ar (r := w32 (l1 + l8)) zp147 rfl rfl rfl ?_
        refine g_is (ls' := [zR 32, zI l1, zJ, zI l3, zI l4, zI (w32 (l5 + 1)), zI x17, zI (w32 (l1 + l8)), zI l8, zI x17]) zp147 rfl rfl (Nat.le_of_ble_eq_true rfl) rfl ?_
        refine g_inc (ls' := [zR 32, zI l1, zJ, zI l3, zI l4, zI (w32 (l5 + 1)), zI x17, zI (w32 (l1 + l8)), zI (w32 (l8 + 1)), zI x17]) zp147 rfl rfl rfl rfl ?_
        refine g_goto zp147 rfl ?_
        exact g_weak (ls' := [zR 32, zI l1, zJ, zI l3, zI l4, zI (w32 (l5 + 1)), zI x17, zI (w32 (l1 + l8)), zI (w32 (l8 + 1)), zJ]) ⟨Or.inr rfl, Or.inr rfl, Or.inr rfl, Or.inr rfl, Or.inr rfl, Or.inr rfl, Or.inr rfl, Or.inr rfl, Or.inr rfl, Or.inl rfl, trivial⟩ h
theorem zp148 : zprog.getD 148 [] = zk148 := rfl
theorem x148_0 {w : zWt} {d : Nat} {H : zHt} {K : Int → zHt → Prop} {l1 : Int}
    (h : zclV w d 45 [zR 36, zI l1] H (fun H1 => zclV w d 149 [zR 36] H1 (fun H3 => zgo w (d + 1) 148 14 [zR 36, zJ, zL 1, zJ, zI 0] [] H3 (zQI K)))) :
    zclI w (d + 1) 148 [zR 36, zI l1] H K := by
  show zgo w (d + 1) 148 0 [zR 36, zI l1, zJ, zJ, zJ] [] H (zQI K)
  refine g_al zp148 rfl rfl rfl (by decide) ?_
  refine g_il zp148 rfl rfl rfl ?_
  refine g_callV (as := [zR 36, zI l1]) (rest := []) zp148 rfl rfl (Nat.succ_pos _) rfl rfl (Nat.le_of_ble_eq_true rfl) (Nat.le_of_ble_eq_true rfl) rfl rfl h (fun H1 h => ?_)
  refine g_al zp148 rfl rfl rfl (by decide) ?_
  refine g_callV (as := [zR 36]) (rest := []) zp148 rfl rfl (Nat.succ_pos _) rfl rfl (Nat.le_of_ble_eq_true rfl) (Nat.le_of_ble_eq_true rfl) rfl rfl h (fun H3 h => ?_)
  refine g_lc zp148 rfl rfl ?_
  refine g_ls (ls' := [zR 36, zI l1, zL 1, zJ, zJ]) zp148 rfl rfl (Nat.le_of_ble_eq_true rfl) rfl ?_
  refine g_ic zp148 rfl rfl ?_
  refine g_is (ls' := [zR 36, zI l1, zL 1, zJ, zI 0]) zp148 rfl rfl (Nat.le_of_ble_eq_true rfl) rfl ?_
  exact g_weak (ls' := [zR 36, zJ, zL 1, zJ, zI 0]) ⟨Or.inr rfl, Or.inl rfl, Or.inr rfl, Or.inr rfl, Or.inr rfl, trivial⟩ h
theorem x148_14 {w : zWt} {d : Nat} {H : zHt} {K : Int → zHt → Prop} {l2 : Int} {l4 : Int}
    (h : ((H 36 3) ≤ l4 → K (w32 l2) H) ∧ (l4 < (H 36 3) → (0 ≤ l4 ∧ l4 < 168) ∧ (0 ≤ l4 ∧ l4 < 9) ∧ zclL w d 55 [zI (zH0 w.2 1 l4), zI (H 39 l4)] H (fun x5 H4 => zgo w (d + 1) 148 14 [zR 36, zJ, zL (w64 (l2 * x5)), zJ, zI (w32 (l4 + 1))] [] H4 (zQI K)))) :
    zgo w (d + 1) 148 14 [zR 36, zJ, zL l2, zJ, zI l4] [] H (zQI K) := by
  refine g_il zp148 rfl rfl rfl ?_
  refine g_al zp148 rfl rfl rfl (by decide) ?_
  refine g_get (v := zI (H 36 3)) zp148 rfl rfl rfl ⟨rfl, by decide, (by decide)⟩ rfl ?_
  refine g_icmp zp148 rfl rfl zc3 (fun c1 => ?_) (fun c1 => ?_)
  · replace h := h.1 c1
    refine g_ll zp148 rfl rfl rfl ?_
    refine g_l2i zp148 rfl rfl ?_
    exact g_ret zp148 rfl rfl ⟨_, rfl, h⟩
  · replace h := h.2 c1
    refine g_ll zp148 rfl rfl rfl ?_
    refine g_stat (v := zR 1) zp148 rfl rfl rfl ?_
    refine g_il zp148 rfl rfl rfl ?_
    obtain ⟨c2, h⟩ := h
    refine g_ald (v := zI (zH0 w.2 1 l4)) zp148 rfl rfl rfl rfl c2 rfl ?_
    refine g_al zp148 rfl rfl rfl (by decide) ?_
    refine g_get (v := zR 39) zp148 rfl rfl rfl ⟨rfl, by decide, (by decide)⟩ rfl ?_
    refine g_il zp148 rfl rfl rfl ?_
    obtain ⟨c3, h⟩ := h
    refine g_ald (v := zI (H 39 l4)) zp148 rfl rfl rfl rfl c3 rfl ?_
    refine g_callL (as := [zI (zH0 w.2 1 l4), zI (H 39 l4)]) (rest := [zL l2]) zp148 rfl rfl (Nat.succ_pos _) rfl rfl (Nat.le_of_ble_eq_true rfl) (Nat.le_of_ble_eq_true rfl) rfl rfl h (fun x5 H4 h => ?_)
    refine g_lar (r := w64 (l2 * x5)) zp148 rfl rfl rfl ?_
    refine g_ls (ls' := [zR 36, zJ, zL (w64 (l2 * x5)), zJ, zI l4]) zp148 rfl rfl (Nat.le_of_ble_eq_true rfl) rfl ?_
    refine g_inc (ls' := [zR 36, zJ, zL (w64 (l2 * x5)), zJ, zI (w32 (l4 + 1))]) zp148 rfl rfl rfl rfl ?_
    refine g_goto zp148 rfl ?_
    exact g_weak (ls' := [zR 36, zJ, zL (w64 (l2 * x5)), zJ, zI (w32 (l4 + 1))]) ⟨Or.inr rfl, Or.inr rfl, Or.inr rfl, Or.inr rfl, Or.inr rfl, trivial⟩ h
