/-! segments: what suffices for a run from there on (by wip/whole/gen3.py) -/
theorem zp204 : zprog.getD 204 [] = zk204 := rfl
theorem x204_0 {w : zWt} {d : Nat} {H : zHt} {K : Int → zHt → Prop} {l1 : Int} {l2 : Int} {l3 : Int}
    (h : (l1 < 0 → zclI w d 174 [zR 81, zI 1] H (fun x3 H2 => (¬ x3 = 0 → zclV w d 205 [zR 81, zI l2] H2 (fun H5 => zclI w d 206 [zR 81, zI l1, zI l2, zI l3] H5 (fun x8 H7 => (0 ≤ x8 → K x8 H7) ∧ (x8 < 0 → zclI w d 178 [zR 81, zI 5] H7 (fun x11 H10 => K x11 H10))))) ∧ (x3 = 0 → K (-1) H2))) ∧ (0 ≤ l1 → zclI w d 173 [zL l2, zL 1, zL 2000] H (fun x13 H12 => (x13 = 0 → zclI w d 174 [zR 81, zI 1] H12 (fun x16 H15 => (¬ x16 = 0 → zclV w d 205 [zR 81, zI l2] H15 (fun H18 => zclI w d 206 [zR 81, zI l1, zI l2, zI l3] H18 (fun x21 H20 => (0 ≤ x21 → K x21 H20) ∧ (x21 < 0 → zclI w d 178 [zR 81, zI 5] H20 (fun x24 H23 => K x24 H23))))) ∧ (x16 = 0 → K (-1) H15))) ∧ (¬ x13 = 0 → (l3 < 0 → zclI w d 174 [zR 81, zI 1] H12 (fun x27 H26 => (¬ x27 = 0 → zclV w d 205 [zR 81, zI l2] H26 (fun H29 => zclI w d 206 [zR 81, zI l1, zI l2, zI l3] H29 (fun x32 H31 => (0 ≤ x32 → K x32 H31) ∧ (x32 < 0 → zclI w d 178 [zR 81, zI 5] H31 (fun x35 H34 => K x35 H34))))) ∧ (x27 = 0 → K (-1) H26))) ∧ (0 ≤ l3 → zclI w d 174 [zR 81, zI 0] H12 (fun x37 H36 => (¬ x37 = 0 → zclV w d 205 [zR 81, zI l2] H36 (fun H39 => zclI w d 206 [zR 81, zI l1, zI l2, zI l3] H39 (fun x42 H41 => (0 ≤ x42 → K x42 H41) ∧ (x42 < 0 → zclI w d 178 [zR 81, zI 5] H41 (fun x45 H44 => K x45 H44))))) ∧ (x37 = 0 → K (-1) H36))))))) :
    zclI w (d + 1) 204 [zR 81, zI l1, zI l2, zI l3] H K := by
  show zgo w (d + 1) 204 0 [zR 81, zI l1, zI l2, zI l3, zJ] [] H (zQI K)
  refine g_al zp204 rfl rfl rfl (by decide) ?_
  refine g_il zp204 rfl rfl rfl ?_
  refine g_if zp204 rfl rfl zc2 (fun c1 => ?_) (fun c1 => ?_)
  · replace h := h.1 c1
    refine g_ic zp204 rfl rfl ?_
    refine g_callI (as := [zR 81, zI 1]) (rest := []) zp204 rfl rfl (Nat.succ_pos _) rfl rfl (Nat.le_of_ble_eq_true rfl) (Nat.le_of_ble_eq_true rfl) rfl rfl h (fun x3 H2 h => ?_)
    refine g_if zp204 rfl rfl zc1 (fun c4 => ?_) (fun c4 => ?_)
    · replace h := h.1 c4
      refine g_al zp204 rfl rfl rfl (by decide) ?_
      refine g_il zp204 rfl rfl rfl ?_
      refine g_callV (as := [zR 81, zI l2]) (rest := []) zp204 rfl rfl (Nat.succ_pos _) rfl rfl (Nat.le_of_ble_eq_true rfl) (Nat.le_of_ble_eq_true rfl) rfl rfl h (fun H5 h => ?_)
      refine g_al zp204 rfl rfl rfl (by decide) ?_
      refine g_il zp204 rfl rfl rfl ?_
      refine g_il zp204 rfl rfl rfl ?_
      refine g_il zp204 rfl rfl rfl ?_
      refine g_callI (as := [zR 81, zI l1, zI l2, zI l3]) (rest := []) zp204 rfl rfl (Nat.succ_pos _) rfl rfl (Nat.le_of_ble_eq_true rfl) (Nat.le_of_ble_eq_true rfl) rfl rfl h (fun x8 H7 h => ?_)
      refine g_is (ls' := [zR 81, zI l1, zI l2, zI l3, zI x8]) zp204 rfl rfl (Nat.le_of_ble_eq_true rfl) rfl ?_
      refine g_il zp204 rfl rfl rfl ?_
      refine g_if zp204 rfl rfl zc3 (fun c9 => ?_) (fun c9 => ?_)
      · replace h := h.1 c9
        refine g_il zp204 rfl rfl rfl ?_
        exact g_ret zp204 rfl rfl ⟨_, rfl, h⟩
      · replace h := h.2 c9
        refine g_al zp204 rfl rfl rfl (by decide) ?_
        refine g_ic zp204 rfl rfl ?_
        refine g_callI (as := [zR 81, zI 5]) (rest := []) zp204 rfl rfl (Nat.succ_pos _) rfl rfl (Nat.le_of_ble_eq_true rfl) (Nat.le_of_ble_eq_true rfl) rfl rfl h (fun x11 H10 h => ?_)
        refine g_goto zp204 rfl ?_
        exact g_ret zp204 rfl rfl ⟨_, rfl, h⟩
    · replace h := h.2 c4
      refine g_ic zp204 rfl rfl ?_
      exact g_ret zp204 rfl rfl ⟨_, rfl, h⟩
  · replace h := h.2 c1
    refine g_il zp204 rfl rfl rfl ?_
    refine g_i2l zp204 rfl rfl ?_
    refine g_lc zp204 rfl rfl ?_
    refine g_lc zp204 rfl rfl ?_
    refine g_callI (as := [zL l2, zL 1, zL 2000]) (rest := [zR 81]) zp204 rfl rfl (Nat.succ_pos _) rfl rfl (Nat.le_of_ble_eq_true rfl) (Nat.le_of_ble_eq_true rfl) rfl rfl h (fun x13 H12 h => ?_)
    refine g_if zp204 rfl rfl zc0 (fun c14 => ?_) (fun c14 => ?_)
    · replace h := h.1 c14
      refine g_ic zp204 rfl rfl ?_
      refine g_callI (as := [zR 81, zI 1]) (rest := []) zp204 rfl rfl (Nat.succ_pos _) rfl rfl (Nat.le_of_ble_eq_true rfl) (Nat.le_of_ble_eq_true rfl) rfl rfl h (fun x16 H15 h => ?_)
      refine g_if zp204 rfl rfl zc1 (fun c17 => ?_) (fun c17 => ?_)
      · replace h := h.1 c17
        refine g_al zp204 rfl rfl rfl (by decide) ?_
        refine g_il zp204 rfl rfl rfl ?_
        refine g_callV (as := [zR 81, zI l2]) (rest := []) zp204 rfl rfl (Nat.succ_pos _) rfl rfl (Nat.le_of_ble_eq_true rfl) (Nat.le_of_ble_eq_true rfl) rfl rfl h (fun H18 h => ?_)
        refine g_al zp204 rfl rfl rfl (by decide) ?_
        refine g_il zp204 rfl rfl rfl ?_
        refine g_il zp204 rfl rfl rfl ?_
        refine g_il zp204 rfl rfl rfl ?_
        refine g_callI (as := [zR 81, zI l1, zI l2, zI l3]) (rest := []) zp204 rfl rfl (Nat.succ_pos _) rfl rfl (Nat.le_of_ble_eq_true rfl) (Nat.le_of_ble_eq_true rfl) rfl rfl h (fun x21 H20 h => ?_)
        refine g_is (ls' := [zR 81, zI l1, zI l2, zI l3, zI x21]) zp204 rfl rfl (Nat.le_of_ble_eq_true rfl) rfl ?_
        refine g_il zp204 rfl rfl rfl ?_
        refine g_if zp204 rfl rfl zc3 (fun c22 => ?_) (fun c22 => ?_)
        · replace h := h.1 c22
          refine g_il zp204 rfl rfl rfl ?_
          exact g_ret zp204 rfl rfl ⟨_, rfl, h⟩
        · replace h := h.2 c22
          refine g_al zp204 rfl rfl rfl (by decide) ?_
          refine g_ic zp204 rfl rfl ?_
          refine g_callI (as := [zR 81, zI 5]) (rest := []) zp204 rfl rfl (Nat.succ_pos _) rfl rfl (Nat.le_of_ble_eq_true rfl) (Nat.le_of_ble_eq_true rfl) rfl rfl h (fun x24 H23 h => ?_)
          refine g_goto zp204 rfl ?_
          exact g_ret zp204 rfl rfl ⟨_, rfl, h⟩
      · replace h := h.2 c17
        refine g_ic zp204 rfl rfl ?_
        exact g_ret zp204 rfl rfl ⟨_, rfl, h⟩
    · replace h := h.2 c14
      refine g_il zp204 rfl rfl rfl ?_
      refine g_if zp204 rfl rfl zc2 (fun c25 => ?_) (fun c25 => ?_)
      · replace h := h.1 c25
        refine g_ic zp204 rfl rfl ?_
        refine g_callI (as := [zR 81, zI 1]) (rest := []) zp204 rfl rfl (Nat.succ_pos _) rfl rfl (Nat.le_of_ble_eq_true rfl) (Nat.le_of_ble_eq_true rfl) rfl rfl h (fun x27 H26 h => ?_)
        refine g_if zp204 rfl rfl zc1 (fun c28 => ?_) (fun c28 => ?_)
        · replace h := h.1 c28
          refine g_al zp204 rfl rfl rfl (by decide) ?_
          refine g_il zp204 rfl rfl rfl ?_
          refine g_callV (as := [zR 81, zI l2]) (rest := []) zp204 rfl rfl (Nat.succ_pos _) rfl rfl (Nat.le_of_ble_eq_true rfl) (Nat.le_of_ble_eq_true rfl) rfl rfl h (fun H29 h => ?_)
          refine g_al zp204 rfl rfl rfl (by decide) ?_
          refine g_il zp204 rfl rfl rfl ?_
          refine g_il zp204 rfl rfl rfl ?_
          refine g_il zp204 rfl rfl rfl ?_
          refine g_callI (as := [zR 81, zI l1, zI l2, zI l3]) (rest := []) zp204 rfl rfl (Nat.succ_pos _) rfl rfl (Nat.le_of_ble_eq_true rfl) (Nat.le_of_ble_eq_true rfl) rfl rfl h (fun x32 H31 h => ?_)
          refine g_is (ls' := [zR 81, zI l1, zI l2, zI l3, zI x32]) zp204 rfl rfl (Nat.le_of_ble_eq_true rfl) rfl ?_
          refine g_il zp204 rfl rfl rfl ?_
          refine g_if zp204 rfl rfl zc3 (fun c33 => ?_) (fun c33 => ?_)
          · replace h := h.1 c33
            refine g_il zp204 rfl rfl rfl ?_
            exact g_ret zp204 rfl rfl ⟨_, rfl, h⟩
          · replace h := h.2 c33
            refine g_al zp204 rfl rfl rfl (by decide) ?_
            refine g_ic zp204 rfl rfl ?_
            refine g_callI (as := [zR 81, zI 5]) (rest := []) zp204 rfl rfl (Nat.succ_pos _) rfl rfl (Nat.le_of_ble_eq_true rfl) (Nat.le_of_ble_eq_true rfl) rfl rfl h (fun x35 H34 h => ?_)
            refine g_goto zp204 rfl ?_
            exact g_ret zp204 rfl rfl ⟨_, rfl, h⟩
        · replace h := h.2 c28
          refine g_ic zp204 rfl rfl ?_
          exact g_ret zp204 rfl rfl ⟨_, rfl, h⟩
      · replace h := h.2 c25
        refine g_ic zp204 rfl rfl ?_
        refine g_goto zp204 rfl ?_
        refine g_callI (as := [zR 81, zI 0]) (rest := []) zp204 rfl rfl (Nat.succ_pos _) rfl rfl (Nat.le_of_ble_eq_true rfl) (Nat.le_of_ble_eq_true rfl) rfl rfl h (fun x37 H36 h => ?_)
        refine g_if zp204 rfl rfl zc1 (fun c38 => ?_) (fun c38 => ?_)
        · replace h := h.1 c38
          refine g_al zp204 rfl rfl rfl (by decide) ?_
          refine g_il zp204 rfl rfl rfl ?_
          refine g_callV (as := [zR 81, zI l2]) (rest := []) zp204 rfl rfl (Nat.succ_pos _) rfl rfl (Nat.le_of_ble_eq_true rfl) (Nat.le_of_ble_eq_true rfl) rfl rfl h (fun H39 h => ?_)
          refine g_al zp204 rfl rfl rfl (by decide) ?_
          refine g_il zp204 rfl rfl rfl ?_
          refine g_il zp204 rfl rfl rfl ?_
          refine g_il zp204 rfl rfl rfl ?_
          refine g_callI (as := [zR 81, zI l1, zI l2, zI l3]) (rest := []) zp204 rfl rfl (Nat.succ_pos _) rfl rfl (Nat.le_of_ble_eq_true rfl) (Nat.le_of_ble_eq_true rfl) rfl rfl h (fun x42 H41 h => ?_)
          refine g_is (ls' := [zR 81, zI l1, zI l2, zI l3, zI x42]) zp204 rfl rfl (Nat.le_of_ble_eq_true rfl) rfl ?_
          refine g_il zp204 rfl rfl rfl ?_
          refine g_if zp204 rfl rfl zc3 (fun c43 => ?_) (fun c43 => ?_)
          · replace h := h.1 c43
            refine g_il zp204 rfl rfl rfl ?_
            exact g_ret zp204 rfl rfl ⟨_, rfl, h⟩
          · replace h := h.2 c43
            refine g_al zp204 rfl rfl rfl (by decide) ?_
            refine g_ic zp204 rfl rfl ?_
            refine g_callI (as := [zR 81, zI 5]) (rest := []) zp204 rfl rfl (Nat.succ_pos _) rfl rfl (Nat.le_of_ble_eq_true rfl) (Nat.le_of_ble_eq_true rfl) rfl rfl h (fun x45 H44 h => ?_)
            refine g_goto zp204 rfl ?_
            exact g_ret zp204 rfl rfl ⟨_, rfl, h⟩
        · replace h := h.2 c38
          refine g_ic zp204 rfl rfl ?_
          exact g_ret zp204 rfl rfl ⟨_, rfl, h⟩
theorem zp205 : zprog.getD 205 [] = zk205 := rfl
theorem x205_0 {w : zWt} {d : Nat} {H : zHt} {K : zHt → Prop} {l1 : Int}
    (h : zgo w (d + 1) 205 2 [zR 81, zI l1, zI 1] [] H (zQV K)) :
    zclV w (d + 1) 205 [zR 81, zI l1] H K := by
  show zgo w (d + 1) 205 0 [zR 81, zI l1, zJ] [] H (zQV K)
  refine g_ic zp205 rfl rfl ?_
  refine g_is (ls' := [zR 81, zI l1, zI 1]) zp205 rfl rfl (Nat.le_of_ble_eq_true rfl) rfl ?_
  exact g_weak (ls' := [zR 81, zI l1, zI 1]) ⟨Or.inr rfl, Or.inr rfl, Or.inr rfl, trivial⟩ h
theorem x205_2 {w : zWt} {d : Nat} {H : zHt} {K : zHt → Prop} {l1 : Int} {l2 : Int}
    (h : (l1 < l2 → K H) ∧ (l2 ≤ l1 → zclL w d 180 [zR 81, zI l2] H (fun x3 H2 => (0 ≤ l2 ∧ l2 < 2001) ∧ zgo w (d + 1) 205 2 [zR 81, zI l1, zI (w32 (l2 + 1))] [] (zup H2 90 l2 x3) (zQV K)))) :
    zgo w (d + 1) 205 2 [zR 81, zI l1, zI l2] [] H (zQV K) := by
  refine g_il zp205 rfl rfl rfl ?_
  refine g_il zp205 rfl rfl rfl ?_
  refine g_icmp zp205 rfl rfl zc4 (fun c1 => ?_) (fun c1 => ?_)
  · replace h := h.1 c1
    exact g_ret zp205 rfl rfl ⟨rfl, h⟩
  · replace h := h.2 c1
    refine g_al zp205 rfl rfl rfl (by decide) ?_
    refine g_get (v := zR 90) zp205 rfl rfl rfl ⟨rfl, by decide, (by decide)⟩ rfl ?_
    refine g_il zp205 rfl rfl rfl ?_
    refine g_al zp205 rfl rfl rfl (by decide) ?_
    refine g_il zp205 rfl rfl rfl ?_
    refine g_callL (as := [zR 81, zI l2]) (rest := [zI l2, zR 90]) zp205 rfl rfl (Nat.succ_pos _) rfl rfl (Nat.le_of_ble_eq_true rfl) (Nat.le_of_ble_eq_true rfl) rfl rfl h (fun x3 H2 h => ?_)
    obtain ⟨c4, h⟩ := h
    refine g_last zp205 rfl rfl rfl (by decide) rfl c4 ?_
    refine g_inc (ls' := [zR 81, zI l1, zI (w32 (l2 + 1))]) zp205 rfl rfl rfl rfl ?_
    refine g_goto zp205 rfl ?_
    exact g_weak (ls' := [zR 81, zI l1, zI (w32 (l2 + 1))]) ⟨Or.inr rfl, Or.inr rfl, Or.inr rfl, trivial⟩ h
theorem zp206 : zprog.getD 206 [] = zk206 := rfl
theorem x206_0 {w : zWt} {d : Nat} {H : zHt} {K : Int → zHt → Prop} {l1 : Int} {l2 : Int} {l3 : Int}
    (h : zgo w d 206 6 [zR 81, zI l1, zI l2, zI l3, zI 0, zI 1] [] H (zQI K)) :
    zclI w d 206 [zR 81, zI l1, zI l2, zI l3] H K := by
  show zgo w d 206 0 [zR 81, zI l1, zI l2, zI l3, zJ, zJ] [] H (zQI K)
  refine g_ic zp206 rfl rfl ?_
  refine g_is (ls' := [zR 81, zI l1, zI l2, zI l3, zI 0, zJ]) zp206 rfl rfl (Nat.le_of_ble_eq_true rfl) rfl ?_
  refine g_ic zp206 rfl rfl ?_
  refine g_is (ls' := [zR 81, zI l1, zI l2, zI l3, zI 0, zI 1]) zp206 rfl rfl (Nat.le_of_ble_eq_true rfl) rfl ?_
  exact g_weak (ls' := [zR 81, zI l1, zI l2, zI l3, zI 0, zI 1]) ⟨Or.inr rfl, Or.inr rfl, Or.inr rfl, Or.inr rfl, Or.inr rfl, Or.inr rfl, trivial⟩ h
theorem x206_6 {w : zWt} {d : Nat} {H : zHt} {K : Int → zHt → Prop} {l1 : Int} {l2 : Int} {l3 : Int} {l4 : Int} {l5 : Int}
    (h : (l2 < l5 → (¬ l3 = (-1) → K (-1) H) ∧ (l3 = (-1) → K l4 H)) ∧ (l5 ≤ l2 → (0 ≤ l5 ∧ l5 < 2001) ∧ ((H 90 l5) = l1 → (¬ l4 = l3 → zgo w d 206 6 [zR 81, zI l1, zI l2, zI l3, zI (w32 (l4 + 1)), zI (w32 (l5 + 1))] [] H (zQI K)) ∧ (l4 = l3 → K l5 H)) ∧ (¬ (H 90 l5) = l1 → zgo w d 206 6 [zR 81, zI l1, zI l2, zI l3, zI l4, zI (w32 (l5 + 1))] [] H (zQI K)))) :
    zgo w d 206 6 [zR 81, zI l1, zI l2, zI l3, zI l4, zI l5] [] H (zQI K) := by
  refine g_il zp206 rfl rfl rfl ?_
  refine g_il zp206 rfl rfl rfl ?_
  refine g_icmp zp206 rfl rfl zc4 (fun c1 => ?_) (fun c1 => ?_)
  · replace h := h.1 c1
    refine g_il zp206 rfl rfl rfl ?_
    refine g_ic zp206 rfl rfl ?_
    refine g_icmp zp206 rfl rfl zc1 (fun c2 => ?_) (fun c2 => ?_)
    · replace h := h.1 c2
      refine g_ic zp206 rfl rfl ?_
      exact g_ret zp206 rfl rfl ⟨_, rfl, h⟩
    · replace h := h.2 c2
      refine g_il zp206 rfl rfl rfl ?_
      refine g_goto zp206 rfl ?_
      exact g_ret zp206 rfl rfl ⟨_, rfl, h⟩
  · replace h := h.2 c1
    refine g_al zp206 rfl rfl rfl (by decide) ?_
    refine g_get (v := zR 90) zp206 rfl rfl rfl ⟨rfl, by decide, (by decide)⟩ rfl ?_
    refine g_il zp206 rfl rfl rfl ?_
    obtain ⟨c3, h⟩ := h
    refine g_ald (v := zL (H 90 l5)) zp206 rfl rfl rfl rfl c3 rfl ?_
    refine g_il zp206 rfl rfl rfl ?_
    refine g_i2l zp206 rfl rfl ?_
    refine g_lcmp zp206 rfl rfl rfl rfl zc0 (fun c4 => ?_) (fun c4 => ?_)
    · replace h := h.1 c4
      refine g_il zp206 rfl rfl rfl ?_
      refine g_il zp206 rfl rfl rfl ?_
      refine g_icmp zp206 rfl rfl zc1 (fun c5 => ?_) (fun c5 => ?_)
      · replace h := h.1 c5
        refine g_inc (ls' := [zR 81, zI l1, zI l2, zI l3, zI (w32 (l4 + 1)), zI l5]) zp206 rfl rfl rfl rfl ?_
        refine g_inc (ls' := [zR 81, zI l1, zI l2, zI l3, zI (w32 (l4 + 1)), zI (w32 (l5 + 1))]) zp206 rfl rfl rfl rfl ?_
        refine g_goto zp206 rfl ?_
        exact g_weak (ls' := [zR 81, zI l1, zI l2, zI l3, zI (w32 (l4 + 1)), zI (w32 (l5 + 1))]) ⟨Or.inr rfl, Or.inr rfl, Or.inr rfl, Or.inr rfl, Or.inr rfl, Or.inr rfl, trivial⟩ h
      · replace h := h.2 c5
        refine g_il zp206 rfl rfl rfl ?_
        exact g_ret zp206 rfl rfl ⟨_, rfl, h⟩
    · replace h := h.2 c4
      refine g_goto zp206 rfl ?_
      refine g_inc (ls' := [zR 81, zI l1, zI l2, zI l3, zI l4, zI (w32 (l5 + 1))]) zp206 rfl rfl rfl rfl ?_
      refine g_goto zp206 rfl ?_
      exact g_weak (ls' := [zR 81, zI l1, zI l2, zI l3, zI l4, zI (w32 (l5 + 1))]) ⟨Or.inr rfl, Or.inr rfl, Or.inr rfl, Or.inr rfl, Or.inr rfl, Or.inr rfl, trivial⟩ h
theorem zp207 : zprog.getD 207 [] = zk207 := rfl
theorem x207_0 {w : zWt} {d : Nat} {H : zHt} {K : Int → zHt → Prop} {l1 : Int} {l2 : Int} {l3 : Int}
    (h : (l1 < 0 → zgo w (d + 1) 207 32 [zR 81, zI l1, zI l2, zI l3, zJ] [zI 1, zR 81] H (zQI K)) ∧ (0 ≤ l1 → zclI w d 173 [zL l2, zL 1, zL 2000] H (fun x3 H2 => (x3 = 0 → zgo w (d + 1) 207 32 [zR 81, zI l1, zI l2, zI l3, zJ] [zI 1, zR 81] H2 (zQI K)) ∧ (¬ x3 = 0 → zclI w d 173 [zL l3, zL 0, zL 1] H2 (fun x6 H5 => (x6 = 0 → zgo w (d + 1) 207 32 [zR 81, zI l1, zI l2, zI l3, zJ] [zI 1, zR 81] H5 (zQI K)) ∧ (¬ x6 = 0 → zgo w (d + 1) 207 32 [zR 81, zI l1, zI l2, zI l3, zJ] [zI 0, zR 81] H5 (zQI K))))))) :
    zclI w (d + 1) 207 [zR 81, zI l1, zI l2, zI l3] H K := by
  show zgo w (d + 1) 207 0 [zR 81, zI l1, zI l2, zI l3, zJ] [] H (zQI K)
  refine g_al zp207 rfl rfl rfl (by decide) ?_
  refine g_il zp207 rfl rfl rfl ?_
  refine g_if zp207 rfl rfl zc2 (fun c1 => ?_) (fun c1 => ?_)
  · replace h := h.1 c1
    refine g_ic zp207 rfl rfl ?_
    exact g_weak (ls' := [zR 81, zI l1, zI l2, zI l3, zJ]) ⟨Or.inr rfl, Or.inr rfl, Or.inr rfl, Or.inr rfl, Or.inr rfl, trivial⟩ h
  · replace h := h.2 c1
    refine g_il zp207 rfl rfl rfl ?_
    refine g_i2l zp207 rfl rfl ?_
    refine g_lc zp207 rfl rfl ?_
    refine g_lc zp207 rfl rfl ?_
    refine g_callI (as := [zL l2, zL 1, zL 2000]) (rest := [zR 81]) zp207 rfl rfl (Nat.succ_pos _) rfl rfl (Nat.le_of_ble_eq_true rfl) (Nat.le_of_ble_eq_true rfl) rfl rfl h (fun x3 H2 h => ?_)
    refine g_if zp207 rfl rfl zc0 (fun c4 => ?_) (fun c4 => ?_)
    · replace h := h.1 c4
      refine g_ic zp207 rfl rfl ?_
      exact g_weak (ls' := [zR 81, zI l1, zI l2, zI l3, zJ]) ⟨Or.inr rfl, Or.inr rfl, Or.inr rfl, Or.inr rfl, Or.inr rfl, trivial⟩ h
    · replace h := h.2 c4
      refine g_il zp207 rfl rfl rfl ?_
      refine g_i2l zp207 rfl rfl ?_
      refine g_lc zp207 rfl rfl ?_
      refine g_lc zp207 rfl rfl ?_
      refine g_callI (as := [zL l3, zL 0, zL 1]) (rest := [zR 81]) zp207 rfl rfl (Nat.succ_pos _) rfl rfl (Nat.le_of_ble_eq_true rfl) (Nat.le_of_ble_eq_true rfl) rfl rfl h (fun x6 H5 h => ?_)
      refine g_if zp207 rfl rfl zc0 (fun c7 => ?_) (fun c7 => ?_)
      · replace h := h.1 c7
        refine g_ic zp207 rfl rfl ?_
        exact g_weak (ls' := [zR 81, zI l1, zI l2, zI l3, zJ]) ⟨Or.inr rfl, Or.inr rfl, Or.inr rfl, Or.inr rfl, Or.inr rfl, trivial⟩ h
      · replace h := h.2 c7
        refine g_ic zp207 rfl rfl ?_
        refine g_goto zp207 rfl ?_
        exact g_weak (ls' := [zR 81, zI l1, zI l2, zI l3, zJ]) ⟨Or.inr rfl, Or.inr rfl, Or.inr rfl, Or.inr rfl, Or.inr rfl, trivial⟩ h
theorem x207_32 {w : zWt} {d : Nat} {H : zHt} {K : Int → zHt → Prop} {l1 : Int} {l2 : Int} {l3 : Int} {s1 : Int}
    (h : zclI w d 174 [zR 81, zI s1] H (fun x2 H1 => (¬ x2 = 0 → zclV w d 205 [zR 81, zI l2] H1 (fun H4 => (¬ l3 = 0 → zclI w d 206 [zR 81, zI l1, zI l2, zI 0] H4 (fun x8 H7 => (0 ≤ x8 → K x8 H7) ∧ (x8 < 0 → zclI w d 178 [zR 81, zI 5] H7 (fun x11 H10 => K x11 H10)))) ∧ (l3 = 0 → zclI w d 206 [zR 81, zI l1, zI l2, zI (-1)] H4 (fun x13 H12 => (0 ≤ x13 → K x13 H12) ∧ (x13 < 0 → zclI w d 178 [zR 81, zI 5] H12 (fun x16 H15 => K x16 H15)))))) ∧ (x2 = 0 → K (-1) H1))) :
    zgo w (d + 1) 207 32 [zR 81, zI l1, zI l2, zI l3, zJ] [zI s1, zR 81] H (zQI K) := by
  refine g_callI (as := [zR 81, zI s1]) (rest := []) zp207 rfl rfl (Nat.succ_pos _) rfl rfl (Nat.le_of_ble_eq_true rfl) (Nat.le_of_ble_eq_true rfl) rfl rfl h (fun x2 H1 h => ?_)
  refine g_if zp207 rfl rfl zc1 (fun c3 => ?_) (fun c3 => ?_)
  · replace h := h.1 c3
    refine g_al zp207 rfl rfl rfl (by decide) ?_
    refine g_il zp207 rfl rfl rfl ?_
    refine g_callV (as := [zR 81, zI l2]) (rest := []) zp207 rfl rfl (Nat.succ_pos _) rfl rfl (Nat.le_of_ble_eq_true rfl) (Nat.le_of_ble_eq_true rfl) rfl rfl h (fun H4 h => ?_)
    refine g_al zp207 rfl rfl rfl (by decide) ?_
    refine g_il zp207 rfl rfl rfl ?_
    refine g_il zp207 rfl rfl rfl ?_
    refine g_il zp207 rfl rfl rfl ?_
    refine g_if zp207 rfl rfl zc1 (fun c6 => ?_) (fun c6 => ?_)
    · replace h := h.1 c6
      refine g_ic zp207 rfl rfl ?_
      refine g_callI (as := [zR 81, zI l1, zI l2, zI 0]) (rest := []) zp207 rfl rfl (Nat.succ_pos _) rfl rfl (Nat.le_of_ble_eq_true rfl) (Nat.le_of_ble_eq_true rfl) rfl rfl h (fun x8 H7 h => ?_)
      refine g_is (ls' := [zR 81, zI l1, zI l2, zI l3, zI x8]) zp207 rfl rfl (Nat.le_of_ble_eq_true rfl) rfl ?_
      refine g_il zp207 rfl rfl rfl ?_
      refine g_if zp207 rfl rfl zc3 (fun c9 => ?_) (fun c9 => ?_)
      · replace h := h.1 c9
        refine g_il zp207 rfl rfl rfl ?_
        exact g_ret zp207 rfl rfl ⟨_, rfl, h⟩
      · replace h := h.2 c9
        refine g_al zp207 rfl rfl rfl (by decide) ?_
        refine g_ic zp207 rfl rfl ?_
        refine g_callI (as := [zR 81, zI 5]) (rest := []) zp207 rfl rfl (Nat.succ_pos _) rfl rfl (Nat.le_of_ble_eq_true rfl) (Nat.le_of_ble_eq_true rfl) rfl rfl h (fun x11 H10 h => ?_)
        refine g_goto zp207 rfl ?_
        exact g_ret zp207 rfl rfl ⟨_, rfl, h⟩
    · replace h := h.2 c6
      refine g_ic zp207 rfl rfl ?_
      refine g_goto zp207 rfl ?_
      refine g_callI (as := [zR 81, zI l1, zI l2, zI (-1)]) (rest := []) zp207 rfl rfl (Nat.succ_pos _) rfl rfl (Nat.le_of_ble_eq_true rfl) (Nat.le_of_ble_eq_true rfl) rfl rfl h (fun x13 H12 h => ?_)
      refine g_is (ls' := [zR 81, zI l1, zI l2, zI l3, zI x13]) zp207 rfl rfl (Nat.le_of_ble_eq_true rfl) rfl ?_
      refine g_il zp207 rfl rfl rfl ?_
      refine g_if zp207 rfl rfl zc3 (fun c14 => ?_) (fun c14 => ?_)
      · replace h := h.1 c14
        refine g_il zp207 rfl rfl rfl ?_
        exact g_ret zp207 rfl rfl ⟨_, rfl, h⟩
      · replace h := h.2 c14
        refine g_al zp207 rfl rfl rfl (by decide) ?_
        refine g_ic zp207 rfl rfl ?_
        refine g_callI (as := [zR 81, zI 5]) (rest := []) zp207 rfl rfl (Nat.succ_pos _) rfl rfl (Nat.le_of_ble_eq_true rfl) (Nat.le_of_ble_eq_true rfl) rfl rfl h (fun x16 H15 h => ?_)
        refine g_goto zp207 rfl ?_
        exact g_ret zp207 rfl rfl ⟨_, rfl, h⟩
  · replace h := h.2 c3
    refine g_ic zp207 rfl rfl ?_
    exact g_ret zp207 rfl rfl ⟨_, rfl, h⟩
theorem zp208 : zprog.getD 208 [] = zk208 := rfl
theorem x208_0 {w : zWt} {d : Nat} {H : zHt} {K : Int → zHt → Prop} {l1 : Int} {l2 : Int} {l3 : Int}
    (h : zclI w d 173 [zL l1, zL 1, zL 500] H (fun x2 H1 => (x2 = 0 → zclI w d 174 [zR 81, zI 1] H1 (fun x5 H4 => (¬ x5 = 0 → zclV w d 205 [zR 81, zI l2] H4 (fun H7 => zgo w (d + 1) 208 62 [zR 81, zI l1, zI l2, zI l3, zI 0, zI (-1), zI 1] [] H7 (zQI K))) ∧ (x5 = 0 → K (-1) H4))) ∧ (¬ x2 = 0 → zclI w d 173 [zL l2, zL 1, zL 2000] H1 (fun x10 H9 => (x10 = 0 → zclI w d 174 [zR 81, zI 1] H9 (fun x13 H12 => (¬ x13 = 0 → zclV w d 205 [zR 81, zI l2] H12 (fun H15 => zgo w (d + 1) 208 62 [zR 81, zI l1, zI l2, zI l3, zI 0, zI (-1), zI 1] [] H15 (zQI K))) ∧ (x13 = 0 → K (-1) H12))) ∧ (¬ x10 = 0 → zclI w d 173 [zL l3, zL 0, zL 1] H9 (fun x18 H17 => (x18 = 0 → zclI w d 174 [zR 81, zI 1] H17 (fun x21 H20 => (¬ x21 = 0 → zclV w d 205 [zR 81, zI l2] H20 (fun H23 => zgo w (d + 1) 208 62 [zR 81, zI l1, zI l2, zI l3, zI 0, zI (-1), zI 1] [] H23 (zQI K))) ∧ (x21 = 0 → K (-1) H20))) ∧ (¬ x18 = 0 → zclI w d 174 [zR 81, zI 0] H17 (fun x26 H25 => (¬ x26 = 0 → zclV w d 205 [zR 81, zI l2] H25 (fun H28 => zgo w (d + 1) 208 62 [zR 81, zI l1, zI l2, zI l3, zI 0, zI (-1), zI 1] [] H28 (zQI K))) ∧ (x26 = 0 → K (-1) H25))))))))) :
    zclI w (d + 1) 208 [zR 81, zI l1, zI l2, zI l3] H K := by
  show zgo w (d + 1) 208 0 [zR 81, zI l1, zI l2, zI l3, zJ, zJ, zJ] [] H (zQI K)
  refine g_al zp208 rfl rfl rfl (by decide) ?_
  refine g_il zp208 rfl rfl rfl ?_
  refine g_i2l zp208 rfl rfl ?_
  refine g_lc zp208 rfl rfl ?_
  refine g_lc zp208 rfl rfl ?_
  refine g_callI (as := [zL l1, zL 1, zL 500]) (rest := [zR 81]) zp208 rfl rfl (Nat.succ_pos _) rfl rfl (Nat.le_of_ble_eq_true rfl) (Nat.le_of_ble_eq_true rfl) rfl rfl h (fun x2 H1 h => ?_)
  refine g_if zp208 rfl rfl zc0 (fun c3 => ?_) (fun c3 => ?_)
  · replace h := h.1 c3
    refine g_ic zp208 rfl rfl ?_
    refine g_callI (as := [zR 81, zI 1]) (rest := []) zp208 rfl rfl (Nat.succ_pos _) rfl rfl (Nat.le_of_ble_eq_true rfl) (Nat.le_of_ble_eq_true rfl) rfl rfl h (fun x5 H4 h => ?_)
    refine g_if zp208 rfl rfl zc1 (fun c6 => ?_) (fun c6 => ?_)
    · replace h := h.1 c6
      refine g_al zp208 rfl rfl rfl (by decide) ?_
      refine g_il zp208 rfl rfl rfl ?_
      refine g_callV (as := [zR 81, zI l2]) (rest := []) zp208 rfl rfl (Nat.succ_pos _) rfl rfl (Nat.le_of_ble_eq_true rfl) (Nat.le_of_ble_eq_true rfl) rfl rfl h (fun H7 h => ?_)
      refine g_ic zp208 rfl rfl ?_
      refine g_is (ls' := [zR 81, zI l1, zI l2, zI l3, zI 0, zJ, zJ]) zp208 rfl rfl (Nat.le_of_ble_eq_true rfl) rfl ?_
      refine g_ic zp208 rfl rfl ?_
      refine g_is (ls' := [zR 81, zI l1, zI l2, zI l3, zI 0, zI (-1), zJ]) zp208 rfl rfl (Nat.le_of_ble_eq_true rfl) rfl ?_
      refine g_ic zp208 rfl rfl ?_
      refine g_is (ls' := [zR 81, zI l1, zI l2, zI l3, zI 0, zI (-1), zI 1]) zp208 rfl rfl (Nat.le_of_ble_eq_true rfl) rfl ?_
      exact g_weak (ls' := [zR 81, zI l1, zI l2, zI l3, zI 0, zI (-1), zI 1]) ⟨Or.inr rfl, Or.inr rfl, Or.inr rfl, Or.inr rfl, Or.inr rfl, Or.inr rfl, Or.inr rfl, trivial⟩ h
    · replace h := h.2 c6
      refine g_ic zp208 rfl rfl ?_
      exact g_ret zp208 rfl rfl ⟨_, rfl, h⟩
  · replace h := h.2 c3
    refine g_il zp208 rfl rfl rfl ?_
    refine g_i2l zp208 rfl rfl ?_
    refine g_lc zp208 rfl rfl ?_
    refine g_lc zp208 rfl rfl ?_
    refine g_callI (as := [zL l2, zL 1, zL 2000]) (rest := [zR 81]) zp208 rfl rfl (Nat.succ_pos _) rfl rfl (Nat.le_of_ble_eq_true rfl) (Nat.le_of_ble_eq_true rfl) rfl rfl h (fun x10 H9 h => ?_)
    refine g_if zp208 rfl rfl zc0 (fun c11 => ?_) (fun c11 => ?_)
    · replace h := h.1 c11
      refine g_ic zp208 rfl rfl ?_
      refine g_callI (as := [zR 81, zI 1]) (rest := []) zp208 rfl rfl (Nat.succ_pos _) rfl rfl (Nat.le_of_ble_eq_true rfl) (Nat.le_of_ble_eq_true rfl) rfl rfl h (fun x13 H12 h => ?_)
      refine g_if zp208 rfl rfl zc1 (fun c14 => ?_) (fun c14 => ?_)
      · replace h := h.1 c14
        refine g_al zp208 rfl rfl rfl (by decide) ?_
        refine g_il zp208 rfl rfl rfl ?_
        refine g_callV (as := [zR 81, zI l2]) (rest := []) zp208 rfl rfl (Nat.succ_pos _) rfl rfl (Nat.le_of_ble_eq_true rfl) (Nat.le_of_ble_eq_true rfl) rfl rfl h (fun H15 h => ?_)
        refine g_ic zp208 rfl rfl ?_
        refine g_is (ls' := [zR 81, zI l1, zI l2, zI l3, zI 0, zJ, zJ]) zp208 rfl rfl (Nat.le_of_ble_eq_true rfl) rfl ?_
        refine g_ic zp208 rfl rfl ?_
        refine g_is (ls' := [zR 81, zI l1, zI l2, zI l3, zI 0, zI (-1), zJ]) zp208 rfl rfl (Nat.le_of_ble_eq_true rfl) rfl ?_
        refine g_ic zp208 rfl rfl ?_
        refine g_is (ls' := [zR 81, zI l1, zI l2, zI l3, zI 0, zI (-1), zI 1]) zp208 rfl rfl (Nat.le_of_ble_eq_true rfl) rfl ?_
        exact g_weak (ls' := [zR 81, zI l1, zI l2, zI l3, zI 0, zI (-1), zI 1]) ⟨Or.inr rfl, Or.inr rfl, Or.inr rfl, Or.inr rfl, Or.inr rfl, Or.inr rfl, Or.inr rfl, trivial⟩ h
      · replace h := h.2 c14
        refine g_ic zp208 rfl rfl ?_
        exact g_ret zp208 rfl rfl ⟨_, rfl, h⟩
    · replace h := h.2 c11
      refine g_il zp208 rfl rfl rfl ?_
      refine g_i2l zp208 rfl rfl ?_
      refine g_lc zp208 rfl rfl ?_
      refine g_lc zp208 rfl rfl ?_
      refine g_callI (as := [zL l3, zL 0, zL 1]) (rest := [zR 81]) zp208 rfl rfl (Nat.succ_pos _) rfl rfl (Nat.le_of_ble_eq_true rfl) (Nat.le_of_ble_eq_true rfl) rfl rfl h (fun x18 H17 h => ?_)
      refine g_if zp208 rfl rfl zc0 (fun c19 => ?_) (fun c19 => ?_)
      · replace h := h.1 c19
        refine g_ic zp208 rfl rfl ?_
        refine g_callI (as := [zR 81, zI 1]) (rest := []) zp208 rfl rfl (Nat.succ_pos _) rfl rfl (Nat.le_of_ble_eq_true rfl) (Nat.le_of_ble_eq_true rfl) rfl rfl h (fun x21 H20 h => ?_)
        refine g_if zp208 rfl rfl zc1 (fun c22 => ?_) (fun c22 => ?_)
        · replace h := h.1 c22
          refine g_al zp208 rfl rfl rfl (by decide) ?_
          refine g_il zp208 rfl rfl rfl ?_
          refine g_callV (as := [zR 81, zI l2]) (rest := []) zp208 rfl rfl (Nat.succ_pos _) rfl rfl (Nat.le_of_ble_eq_true rfl) (Nat.le_of_ble_eq_true rfl) rfl rfl h (fun H23 h => ?_)
          refine g_ic zp208 rfl rfl ?_
          refine g_is (ls' := [zR 81, zI l1, zI l2, zI l3, zI 0, zJ, zJ]) zp208 rfl rfl (Nat.le_of_ble_eq_true rfl) rfl ?_
          refine g_ic zp208 rfl rfl ?_
          refine g_is (ls' := [zR 81, zI l1, zI l2, zI l3, zI 0, zI (-1), zJ]) zp208 rfl rfl (Nat.le_of_ble_eq_true rfl) rfl ?_
          refine g_ic zp208 rfl rfl ?_
          refine g_is (ls' := [zR 81, zI l1, zI l2, zI l3, zI 0, zI (-1), zI 1]) zp208 rfl rfl (Nat.le_of_ble_eq_true rfl) rfl ?_
          exact g_weak (ls' := [zR 81, zI l1, zI l2, zI l3, zI 0, zI (-1), zI 1]) ⟨Or.inr rfl, Or.inr rfl, Or.inr rfl, Or.inr rfl, Or.inr rfl, Or.inr rfl, Or.inr rfl, trivial⟩ h
        · replace h := h.2 c22
          refine g_ic zp208 rfl rfl ?_
          exact g_ret zp208 rfl rfl ⟨_, rfl, h⟩
      · replace h := h.2 c19
        refine g_ic zp208 rfl rfl ?_
        refine g_goto zp208 rfl ?_
        refine g_callI (as := [zR 81, zI 0]) (rest := []) zp208 rfl rfl (Nat.succ_pos _) rfl rfl (Nat.le_of_ble_eq_true rfl) (Nat.le_of_ble_eq_true rfl) rfl rfl h (fun x26 H25 h => ?_)
        refine g_if zp208 rfl rfl zc1 (fun c27 => ?_) (fun c27 => ?_)
        · replace h := h.1 c27
          refine g_al zp208 rfl rfl rfl (by decide) ?_
          refine g_il zp208 rfl rfl rfl ?_
          refine g_callV (as := [zR 81, zI l2]) (rest := []) zp208 rfl rfl (Nat.succ_pos _) rfl rfl (Nat.le_of_ble_eq_true rfl) (Nat.le_of_ble_eq_true rfl) rfl rfl h (fun H28 h => ?_)
          refine g_ic zp208 rfl rfl ?_
          refine g_is (ls' := [zR 81, zI l1, zI l2, zI l3, zI 0, zJ, zJ]) zp208 rfl rfl (Nat.le_of_ble_eq_true rfl) rfl ?_
          refine g_ic zp208 rfl rfl ?_
          refine g_is (ls' := [zR 81, zI l1, zI l2, zI l3, zI 0, zI (-1), zJ]) zp208 rfl rfl (Nat.le_of_ble_eq_true rfl) rfl ?_
          refine g_ic zp208 rfl rfl ?_
          refine g_is (ls' := [zR 81, zI l1, zI l2, zI l3, zI 0, zI (-1), zI 1]) zp208 rfl rfl (Nat.le_of_ble_eq_true rfl) rfl ?_
          exact g_weak (ls' := [zR 81, zI l1, zI l2, zI l3, zI 0, zI (-1), zI 1]) ⟨Or.inr rfl, Or.inr rfl, Or.inr rfl, Or.inr rfl, Or.inr rfl, Or.inr rfl, Or.inr rfl, trivial⟩ h
        · replace h := h.2 c27
          refine g_ic zp208 rfl rfl ?_
          exact g_ret zp208 rfl rfl ⟨_, rfl, h⟩
theorem x208_62 {w : zWt} {d : Nat} {H : zHt} {K : Int → zHt → Prop} {l1 : Int} {l2 : Int} {l3 : Int} {l4 : Int} {l5 : Int} {l6 : Int}
    (h : (l1 < l6 → (¬ l3 = 0 → (0 ≤ l5 → K l5 H) ∧ (l5 < 0 → zclI w d 178 [zR 81, zI 5] H (fun x5 H4 => K x5 H4))) ∧ (l3 = 0 → K l4 H)) ∧ (l6 ≤ l1 → zclI w d 206 [zR 81, zI l6, zI l2, zI 0] H (fun x7 H6 => (x7 < 0 → zgo w (d + 1) 208 62 [zR 81, zI l1, zI l2, zI l3, zI (w32 (l4 + 1)), zI l6, zI (w32 (l6 + 1))] [] H6 (zQI K)) ∧ (0 ≤ x7 → zgo w (d + 1) 208 62 [zR 81, zI l1, zI l2, zI l3, zI l4, zI l5, zI (w32 (l6 + 1))] [] H6 (zQI K))))) :
    zgo w (d + 1) 208 62 [zR 81, zI l1, zI l2, zI l3, zI l4, zI l5, zI l6] [] H (zQI K) := by
  refine g_il zp208 rfl rfl rfl ?_
  refine g_il zp208 rfl rfl rfl ?_
  refine g_icmp zp208 rfl rfl zc4 (fun c1 => ?_) (fun c1 => ?_)
  · replace h := h.1 c1
    refine g_il zp208 rfl rfl rfl ?_
    refine g_if zp208 rfl rfl zc1 (fun c2 => ?_) (fun c2 => ?_)
    · replace h := h.1 c2
      refine g_il zp208 rfl rfl rfl ?_
      refine g_if zp208 rfl rfl zc3 (fun c3 => ?_) (fun c3 => ?_)
      · replace h := h.1 c3
        refine g_il zp208 rfl rfl rfl ?_
        exact g_ret zp208 rfl rfl ⟨_, rfl, h⟩
      · replace h := h.2 c3
        refine g_al zp208 rfl rfl rfl (by decide) ?_
        refine g_ic zp208 rfl rfl ?_
        refine g_callI (as := [zR 81, zI 5]) (rest := []) zp208 rfl rfl (Nat.succ_pos _) rfl rfl (Nat.le_of_ble_eq_true rfl) (Nat.le_of_ble_eq_true rfl) rfl rfl h (fun x5 H4 h => ?_)
        refine g_goto zp208 rfl ?_
        exact g_ret zp208 rfl rfl ⟨_, rfl, h⟩
    · replace h := h.2 c2
      refine g_il zp208 rfl rfl rfl ?_
      refine g_goto zp208 rfl ?_
      exact g_ret zp208 rfl rfl ⟨_, rfl, h⟩
  · replace h := h.2 c1
    refine g_al zp208 rfl rfl rfl (by decide) ?_
    refine g_il zp208 rfl rfl rfl ?_
    refine g_il zp208 rfl rfl rfl ?_
    refine g_ic zp208 rfl rfl ?_
    refine g_callI (as := [zR 81, zI l6, zI l2, zI 0]) (rest := []) zp208 rfl rfl (Nat.succ_pos _) rfl rfl (Nat.le_of_ble_eq_true rfl) (Nat.le_of_ble_eq_true rfl) rfl rfl h (fun x7 H6 h => ?_)
    refine g_if zp208 rfl rfl zc2 (fun c8 => ?_) (fun c8 => ?_)
    · replace h := h.1 c8
      refine g_inc (ls' := [zR 81, zI l1, zI l2, zI l3, zI (w32 (l4 + 1)), zI l5, zI l6]) zp208 rfl rfl rfl rfl ?_
      refine g_il zp208 rfl rfl rfl ?_
      refine g_is (ls' := [zR 81, zI l1, zI l2, zI l3, zI (w32 (l4 + 1)), zI l6, zI l6]) zp208 rfl rfl (Nat.le_of_ble_eq_true rfl) rfl ?_
      refine g_inc (ls' := [zR 81, zI l1, zI l2, zI l3, zI (w32 (l4 + 1)), zI l6, zI (w32 (l6 + 1))]) zp208 rfl rfl rfl rfl ?_
      refine g_goto zp208 rfl ?_
      exact g_weak (ls' := [zR 81, zI l1, zI l2, zI l3, zI (w32 (l4 + 1)), zI l6, zI (w32 (l6 + 1))]) ⟨Or.inr rfl, Or.inr rfl, Or.inr rfl, Or.inr rfl, Or.inr rfl, Or.inr rfl, Or.inr rfl, trivial⟩ h
    · replace h := h.2 c8
      refine g_goto zp208 rfl ?_
      refine g_inc (ls' := [zR 81, zI l1, zI l2, zI l3, zI l4, zI l5, zI (w32 (l6 + 1))]) zp208 rfl rfl rfl rfl ?_
      refine g_goto zp208 rfl ?_
      exact g_weak (ls' := [zR 81, zI l1, zI l2, zI l3, zI l4, zI l5, zI (w32 (l6 + 1))]) ⟨Or.inr rfl, Or.inr rfl, Or.inr rfl, Or.inr rfl, Or.inr rfl, Or.inr rfl, Or.inr rfl, trivial⟩ h
theorem zp209 : zprog.getD 209 [] = zk209 := rfl
theorem x209_0 {w : zWt} {d : Nat} {H : zHt} {K : Int → zHt → Prop} {l1 : Int}
    (h : zclI w d 176 [zI l1] H (fun x2 H1 => (x2 = 0 → zclI w d 174 [zR 81, zI 1] H1 (fun x5 H4 => (¬ x5 = 0 → zclI w d 186 [zR 81, zI l1, zI 0] H4 (fun x8 H7 => (2 ≤ x8 → zclV w d 177 [zR 81, zI l1] H7 (fun H10 => zgo w (d + 1) 209 51 [zR 81, zI l1, zR 91, zI (H10 81 8), zI 0] [] H10 (zQI K))) ∧ (x8 < 2 → K 0 H7))) ∧ (x5 = 0 → K (-1) H4))) ∧ (¬ x2 = 0 → zclI w d 174 [zR 81, zI 0] H1 (fun x13 H12 => (¬ x13 = 0 → zclI w d 186 [zR 81, zI l1, zI 0] H12 (fun x16 H15 => (2 ≤ x16 → zclV w d 177 [zR 81, zI l1] H15 (fun H18 => zgo w (d + 1) 209 51 [zR 81, zI l1, zR 91, zI (H18 81 8), zI 0] [] H18 (zQI K))) ∧ (x16 < 2 → K 0 H15))) ∧ (x13 = 0 → K (-1) H12))))) :
    zclI w (d + 1) 209 [zR 81, zI l1] H K := by
  show zgo w (d + 1) 209 0 [zR 81, zI l1, zJ, zJ, zJ] [] H (zQI K)
  refine g_al zp209 rfl rfl rfl (by decide) ?_
  refine g_il zp209 rfl rfl rfl ?_
  refine g_callI (as := [zI l1]) (rest := [zR 81]) zp209 rfl rfl (Nat.succ_pos _) rfl rfl (Nat.le_of_ble_eq_true rfl) (Nat.le_of_ble_eq_true rfl) rfl rfl h (fun x2 H1 h => ?_)
  refine g_if zp209 rfl rfl zc0 (fun c3 => ?_) (fun c3 => ?_)
  · replace h := h.1 c3
    refine g_ic zp209 rfl rfl ?_
    refine g_callI (as := [zR 81, zI 1]) (rest := []) zp209 rfl rfl (Nat.succ_pos _) rfl rfl (Nat.le_of_ble_eq_true rfl) (Nat.le_of_ble_eq_true rfl) rfl rfl h (fun x5 H4 h => ?_)
    refine g_if zp209 rfl rfl zc1 (fun c6 => ?_) (fun c6 => ?_)
    · replace h := h.1 c6
      refine g_al zp209 rfl rfl rfl (by decide) ?_
      refine g_il zp209 rfl rfl rfl ?_
      refine g_ic zp209 rfl rfl ?_
      refine g_callI (as := [zR 81, zI l1, zI 0]) (rest := []) zp209 rfl rfl (Nat.succ_pos _) rfl rfl (Nat.le_of_ble_eq_true rfl) (Nat.le_of_ble_eq_true rfl) rfl rfl h (fun x8 H7 h => ?_)
      refine g_ic zp209 rfl rfl ?_
      refine g_icmp zp209 rfl rfl zc3 (fun c9 => ?_) (fun c9 => ?_)
      · replace h := h.1 c9
        refine g_al zp209 rfl rfl rfl (by decide) ?_
        refine g_il zp209 rfl rfl rfl ?_
        refine g_callV (as := [zR 81, zI l1]) (rest := []) zp209 rfl rfl (Nat.succ_pos _) rfl rfl (Nat.le_of_ble_eq_true rfl) (Nat.le_of_ble_eq_true rfl) rfl rfl h (fun H10 h => ?_)
        refine g_al zp209 rfl rfl rfl (by decide) ?_
        refine g_get (v := zR 91) zp209 rfl rfl rfl ⟨rfl, by decide, (by decide)⟩ rfl ?_
        refine g_as (ls' := [zR 81, zI l1, zR 91, zJ, zJ]) zp209 rfl rfl (Nat.le_of_ble_eq_true rfl) (by decide) rfl ?_
        refine g_al zp209 rfl rfl rfl (by decide) ?_
        refine g_get (v := zI (H10 81 8)) zp209 rfl rfl rfl ⟨rfl, by decide, (by decide)⟩ rfl ?_
        refine g_is (ls' := [zR 81, zI l1, zR 91, zI (H10 81 8), zJ]) zp209 rfl rfl (Nat.le_of_ble_eq_true rfl) rfl ?_
        refine g_ic zp209 rfl rfl ?_
        refine g_is (ls' := [zR 81, zI l1, zR 91, zI (H10 81 8), zI 0]) zp209 rfl rfl (Nat.le_of_ble_eq_true rfl) rfl ?_
        exact g_weak (ls' := [zR 81, zI l1, zR 91, zI (H10 81 8), zI 0]) ⟨Or.inr rfl, Or.inr rfl, Or.inr rfl, Or.inr rfl, Or.inr rfl, trivial⟩ h
      · replace h := h.2 c9
        refine g_ic zp209 rfl rfl ?_
        exact g_ret zp209 rfl rfl ⟨_, rfl, h⟩
    · replace h := h.2 c6
      refine g_ic zp209 rfl rfl ?_
      exact g_ret zp209 rfl rfl ⟨_, rfl, h⟩
  · replace h := h.2 c3
    refine g_ic zp209 rfl rfl ?_
    refine g_goto zp209 rfl ?_
    refine g_callI (as := [zR 81, zI 0]) (rest := []) zp209 rfl rfl (Nat.succ_pos _) rfl rfl (Nat.le_of_ble_eq_true rfl) (Nat.le_of_ble_eq_true rfl) rfl rfl h (fun x13 H12 h => ?_)
    refine g_if zp209 rfl rfl zc1 (fun c14 => ?_) (fun c14 => ?_)
    · replace h := h.1 c14
      refine g_al zp209 rfl rfl rfl (by decide) ?_
      refine g_il zp209 rfl rfl rfl ?_
      refine g_ic zp209 rfl rfl ?_
      refine g_callI (as := [zR 81, zI l1, zI 0]) (rest := []) zp209 rfl rfl (Nat.succ_pos _) rfl rfl (Nat.le_of_ble_eq_true rfl) (Nat.le_of_ble_eq_true rfl) rfl rfl h (fun x16 H15 h => ?_)
      refine g_ic zp209 rfl rfl ?_
      refine g_icmp zp209 rfl rfl zc3 (fun c17 => ?_) (fun c17 => ?_)
      · replace h := h.1 c17
        refine g_al zp209 rfl rfl rfl (by decide) ?_
        refine g_il zp209 rfl rfl rfl ?_
        refine g_callV (as := [zR 81, zI l1]) (rest := []) zp209 rfl rfl (Nat.succ_pos _) rfl rfl (Nat.le_of_ble_eq_true rfl) (Nat.le_of_ble_eq_true rfl) rfl rfl h (fun H18 h => ?_)
        refine g_al zp209 rfl rfl rfl (by decide) ?_
        refine g_get (v := zR 91) zp209 rfl rfl rfl ⟨rfl, by decide, (by decide)⟩ rfl ?_
        refine g_as (ls' := [zR 81, zI l1, zR 91, zJ, zJ]) zp209 rfl rfl (Nat.le_of_ble_eq_true rfl) (by decide) rfl ?_
        refine g_al zp209 rfl rfl rfl (by decide) ?_
        refine g_get (v := zI (H18 81 8)) zp209 rfl rfl rfl ⟨rfl, by decide, (by decide)⟩ rfl ?_
        refine g_is (ls' := [zR 81, zI l1, zR 91, zI (H18 81 8), zJ]) zp209 rfl rfl (Nat.le_of_ble_eq_true rfl) rfl ?_
        refine g_ic zp209 rfl rfl ?_
        refine g_is (ls' := [zR 81, zI l1, zR 91, zI (H18 81 8), zI 0]) zp209 rfl rfl (Nat.le_of_ble_eq_true rfl) rfl ?_
        exact g_weak (ls' := [zR 81, zI l1, zR 91, zI (H18 81 8), zI 0]) ⟨Or.inr rfl, Or.inr rfl, Or.inr rfl, Or.inr rfl, Or.inr rfl, trivial⟩ h
      · replace h := h.2 c17
        refine g_ic zp209 rfl rfl ?_
        exact g_ret zp209 rfl rfl ⟨_, rfl, h⟩
    · replace h := h.2 c14
      refine g_ic zp209 rfl rfl ?_
      exact g_ret zp209 rfl rfl ⟨_, rfl, h⟩
theorem x209_51 {w : zWt} {d : Nat} {H : zHt} {K : Int → zHt → Prop} {l1 : Int} {l3 : Int} {l4 : Int}
    (h : (l3 ≤ l4 → zgo w (d + 1) 209 77 [zR 81, zI l1, zR 91, zI l3, zI 0] [] H (zQI K)) ∧ (l4 < l3 → (0 ≤ l4 ∧ l4 < 10) ∧ zgo w (d + 1) 209 51 [zR 81, zI l1, zR 91, zI l3, zI (w32 (l4 + 1))] [] (zup H 91 l4 (H 85 l4)) (zQI K))) :
    zgo w (d + 1) 209 51 [zR 81, zI l1, zR 91, zI l3, zI l4] [] H (zQI K) := by
  refine g_il zp209 rfl rfl rfl ?_
  refine g_il zp209 rfl rfl rfl ?_
  refine g_icmp zp209 rfl rfl zc3 (fun c1 => ?_) (fun c1 => ?_)
  · replace h := h.1 c1
    refine g_ic zp209 rfl rfl ?_
    refine g_is (ls' := [zR 81, zI l1, zR 91, zI l3, zI 0]) zp209 rfl rfl (Nat.le_of_ble_eq_true rfl) rfl ?_
    exact g_weak (ls' := [zR 81, zI l1, zR 91, zI l3, zI 0]) ⟨Or.inr rfl, Or.inr rfl, Or.inr rfl, Or.inr rfl, Or.inr rfl, trivial⟩ h
  · replace h := h.2 c1
    refine g_al zp209 rfl rfl rfl (by decide) ?_
    refine g_il zp209 rfl rfl rfl ?_
    refine g_al zp209 rfl rfl rfl (by decide) ?_
    refine g_get (v := zR 85) zp209 rfl rfl rfl ⟨rfl, by decide, (by decide)⟩ rfl ?_
    refine g_il zp209 rfl rfl rfl ?_
    obtain ⟨c2, h⟩ := h
    refine g_ald (v := zI (H 85 l4)) zp209 rfl rfl rfl rfl c2 rfl ?_
    refine g_iast zp209 rfl rfl rfl (by decide) rfl c2 ?_
    refine g_inc (ls' := [zR 81, zI l1, zR 91, zI l3, zI (w32 (l4 + 1))]) zp209 rfl rfl rfl rfl ?_
    refine g_goto zp209 rfl ?_
    exact g_weak (ls' := [zR 81, zI l1, zR 91, zI l3, zI (w32 (l4 + 1))]) ⟨Or.inr rfl, Or.inr rfl, Or.inr rfl, Or.inr rfl, Or.inr rfl, trivial⟩ h
theorem x209_77 {w : zWt} {d : Nat} {H : zHt} {K : Int → zHt → Prop} {l1 : Int} {l3 : Int} {l4 : Int}
    (h : (l3 ≤ l4 → K 1 H) ∧ (l4 < l3 → (0 ≤ l4 ∧ l4 < 10) ∧ ((H 91 l4) ≠ 0) ∧ zclI w d 186 [zR 81, zI (w32 (Int.tdiv l1 (H 91 l4))), zI 0] H (fun x5 H4 => (x5 ≤ 0 → zgo w (d + 1) 209 77 [zR 81, zI l1, zR 91, zI l3, zI (w32 (l4 + 1))] [] H4 (zQI K)) ∧ (0 < x5 → K 0 H4)))) :
    zgo w (d + 1) 209 77 [zR 81, zI l1, zR 91, zI l3, zI l4] [] H (zQI K) := by
  refine g_il zp209 rfl rfl rfl ?_
  refine g_il zp209 rfl rfl rfl ?_
  refine g_icmp zp209 rfl rfl zc3 (fun c1 => ?_) (fun c1 => ?_)
  · replace h := h.1 c1
    refine g_ic zp209 rfl rfl ?_
    exact g_ret zp209 rfl rfl ⟨_, rfl, h⟩
  · replace h := h.2 c1
    refine g_al zp209 rfl rfl rfl (by decide) ?_
    refine g_il zp209 rfl rfl rfl ?_
    refine g_al zp209 rfl rfl rfl (by decide) ?_
    refine g_il zp209 rfl rfl rfl ?_
    obtain ⟨c2, h⟩ := h
    refine g_ald (v := zI (H 91 l4)) zp209 rfl rfl rfl rfl c2 rfl ?_
    obtain ⟨c3, h⟩ := h
    refine g_ar (r := w32 (Int.tdiv l1 (H 91 l4))) zp209 rfl rfl (zr_div c3) ?_
    refine g_ic zp209 rfl rfl ?_
    refine g_callI (as := [zR 81, zI (w32 (Int.tdiv l1 (H 91 l4))), zI 0]) (rest := []) zp209 rfl rfl (Nat.succ_pos _) rfl rfl (Nat.le_of_ble_eq_true rfl) (Nat.le_of_ble_eq_true rfl) rfl rfl h (fun x5 H4 h => ?_)
    refine g_if zp209 rfl rfl zc5 (fun c6 => ?_) (fun c6 => ?_)
    · replace h := h.1 c6
      refine g_inc (ls' := [zR 81, zI l1, zR 91, zI l3, zI (w32 (l4 + 1))]) zp209 rfl rfl rfl rfl ?_
      refine g_goto zp209 rfl ?_
      exact g_weak (ls' := [zR 81, zI l1, zR 91, zI l3, zI (w32 (l4 + 1))]) ⟨Or.inr rfl, Or.inr rfl, Or.inr rfl, Or.inr rfl, Or.inr rfl, trivial⟩ h
    · replace h := h.2 c6
      refine g_ic zp209 rfl rfl ?_
      exact g_ret zp209 rfl rfl ⟨_, rfl, h⟩
theorem zp210 : zprog.getD 210 [] = zk210 := rfl
theorem x210_0 {w : zWt} {d : Nat} {H : zHt} {K : Int → zHt → Prop} {l1 : Int} {l2 : Int}
    (h : zclI w d 173 [zL l1, zL 1, zL 500] H (fun x2 H1 => (x2 = 0 → zclI w d 174 [zR 81, zI 1] H1 (fun x5 H4 => (¬ x5 = 0 → zclV w d 205 [zR 81, zI l1] H4 (fun H7 => zgo w (d + 1) 210 45 [zR 81, zI l1, zI l2, zI 1, zJ, zJ, zJ, zJ, zJ] [] H7 (zQI K))) ∧ (x5 = 0 → K (-1) H4))) ∧ (¬ x2 = 0 → zclI w d 173 [zL l2, zL 0, zL 3] H1 (fun x10 H9 => (x10 = 0 → zclI w d 174 [zR 81, zI 1] H9 (fun x13 H12 => (¬ x13 = 0 → zclV w d 205 [zR 81, zI l1] H12 (fun H15 => zgo w (d + 1) 210 45 [zR 81, zI l1, zI l2, zI 1, zJ, zJ, zJ, zJ, zJ] [] H15 (zQI K))) ∧ (x13 = 0 → K (-1) H12))) ∧ (¬ x10 = 0 → zclI w d 174 [zR 81, zI 0] H9 (fun x18 H17 => (¬ x18 = 0 → zclV w d 205 [zR 81, zI l1] H17 (fun H20 => zgo w (d + 1) 210 45 [zR 81, zI l1, zI l2, zI 1, zJ, zJ, zJ, zJ, zJ] [] H20 (zQI K))) ∧ (x18 = 0 → K (-1) H17))))))) :
    zclI w (d + 1) 210 [zR 81, zI l1, zI l2] H K := by
  show zgo w (d + 1) 210 0 [zR 81, zI l1, zI l2, zJ, zJ, zJ, zJ, zJ, zJ] [] H (zQI K)
  refine g_al zp210 rfl rfl rfl (by decide) ?_
  refine g_il zp210 rfl rfl rfl ?_
  refine g_i2l zp210 rfl rfl ?_
  refine g_lc zp210 rfl rfl ?_
  refine g_lc zp210 rfl rfl ?_
  refine g_callI (as := [zL l1, zL 1, zL 500]) (rest := [zR 81]) zp210 rfl rfl (Nat.succ_pos _) rfl rfl (Nat.le_of_ble_eq_true rfl) (Nat.le_of_ble_eq_true rfl) rfl rfl h (fun x2 H1 h => ?_)
  refine g_if zp210 rfl rfl zc0 (fun c3 => ?_) (fun c3 => ?_)
  · replace h := h.1 c3
    refine g_ic zp210 rfl rfl ?_
    refine g_callI (as := [zR 81, zI 1]) (rest := []) zp210 rfl rfl (Nat.succ_pos _) rfl rfl (Nat.le_of_ble_eq_true rfl) (Nat.le_of_ble_eq_true rfl) rfl rfl h (fun x5 H4 h => ?_)
    refine g_if zp210 rfl rfl zc1 (fun c6 => ?_) (fun c6 => ?_)
    · replace h := h.1 c6
      refine g_al zp210 rfl rfl rfl (by decide) ?_
      refine g_il zp210 rfl rfl rfl ?_
      refine g_callV (as := [zR 81, zI l1]) (rest := []) zp210 rfl rfl (Nat.succ_pos _) rfl rfl (Nat.le_of_ble_eq_true rfl) (Nat.le_of_ble_eq_true rfl) rfl rfl h (fun H7 h => ?_)
      refine g_ic zp210 rfl rfl ?_
      refine g_is (ls' := [zR 81, zI l1, zI l2, zI 1, zJ, zJ, zJ, zJ, zJ]) zp210 rfl rfl (Nat.le_of_ble_eq_true rfl) rfl ?_
      exact g_weak (ls' := [zR 81, zI l1, zI l2, zI 1, zJ, zJ, zJ, zJ, zJ]) ⟨Or.inr rfl, Or.inr rfl, Or.inr rfl, Or.inr rfl, Or.inr rfl, Or.inr rfl, Or.inr rfl, Or.inr rfl, Or.inr rfl, trivial⟩ h
    · replace h := h.2 c6
      refine g_ic zp210 rfl rfl ?_
      exact g_ret zp210 rfl rfl ⟨_, rfl, h⟩
  · replace h := h.2 c3
    refine g_il zp210 rfl rfl rfl ?_
    refine g_i2l zp210 rfl rfl ?_
    refine g_lc zp210 rfl rfl ?_
    refine g_lc zp210 rfl rfl ?_
    refine g_callI (as := [zL l2, zL 0, zL 3]) (rest := [zR 81]) zp210 rfl rfl (Nat.succ_pos _) rfl rfl (Nat.le_of_ble_eq_true rfl) (Nat.le_of_ble_eq_true rfl) rfl rfl h (fun x10 H9 h => ?_)
    refine g_if zp210 rfl rfl zc0 (fun c11 => ?_) (fun c11 => ?_)
    · replace h := h.1 c11
      refine g_ic zp210 rfl rfl ?_
      refine g_callI (as := [zR 81, zI 1]) (rest := []) zp210 rfl rfl (Nat.succ_pos _) rfl rfl (Nat.le_of_ble_eq_true rfl) (Nat.le_of_ble_eq_true rfl) rfl rfl h (fun x13 H12 h => ?_)
      refine g_if zp210 rfl rfl zc1 (fun c14 => ?_) (fun c14 => ?_)
      · replace h := h.1 c14
        refine g_al zp210 rfl rfl rfl (by decide) ?_
        refine g_il zp210 rfl rfl rfl ?_
        refine g_callV (as := [zR 81, zI l1]) (rest := []) zp210 rfl rfl (Nat.succ_pos _) rfl rfl (Nat.le_of_ble_eq_true rfl) (Nat.le_of_ble_eq_true rfl) rfl rfl h (fun H15 h => ?_)
        refine g_ic zp210 rfl rfl ?_
        refine g_is (ls' := [zR 81, zI l1, zI l2, zI 1, zJ, zJ, zJ, zJ, zJ]) zp210 rfl rfl (Nat.le_of_ble_eq_true rfl) rfl ?_
        exact g_weak (ls' := [zR 81, zI l1, zI l2, zI 1, zJ, zJ, zJ, zJ, zJ]) ⟨Or.inr rfl, Or.inr rfl, Or.inr rfl, Or.inr rfl, Or.inr rfl, Or.inr rfl, Or.inr rfl, Or.inr rfl, Or.inr rfl, trivial⟩ h
      · replace h := h.2 c14
        refine g_ic zp210 rfl rfl ?_
        exact g_ret zp210 rfl rfl ⟨_, rfl, h⟩
    · replace h := h.2 c11
      refine g_ic zp210 rfl rfl ?_
      refine g_goto zp210 rfl ?_
      refine g_callI (as := [zR 81, zI 0]) (rest := []) zp210 rfl rfl (Nat.succ_pos _) rfl rfl (Nat.le_of_ble_eq_true rfl) (Nat.le_of_ble_eq_true rfl) rfl rfl h (fun x18 H17 h => ?_)
      refine g_if zp210 rfl rfl zc1 (fun c19 => ?_) (fun c19 => ?_)
      · replace h := h.1 c19
        refine g_al zp210 rfl rfl rfl (by decide) ?_
        refine g_il zp210 rfl rfl rfl ?_
        refine g_callV (as := [zR 81, zI l1]) (rest := []) zp210 rfl rfl (Nat.succ_pos _) rfl rfl (Nat.le_of_ble_eq_true rfl) (Nat.le_of_ble_eq_true rfl) rfl rfl h (fun H20 h => ?_)
        refine g_ic zp210 rfl rfl ?_
        refine g_is (ls' := [zR 81, zI l1, zI l2, zI 1, zJ, zJ, zJ, zJ, zJ]) zp210 rfl rfl (Nat.le_of_ble_eq_true rfl) rfl ?_
        exact g_weak (ls' := [zR 81, zI l1, zI l2, zI 1, zJ, zJ, zJ, zJ, zJ]) ⟨Or.inr rfl, Or.inr rfl, Or.inr rfl, Or.inr rfl, Or.inr rfl, Or.inr rfl, Or.inr rfl, Or.inr rfl, Or.inr rfl, trivial⟩ h
      · replace h := h.2 c19
        refine g_ic zp210 rfl rfl ?_
        exact g_ret zp210 rfl rfl ⟨_, rfl, h⟩
theorem x210_45 {w : zWt} {d : Nat} {H : zHt} {K : Int → zHt → Prop} {l1 : Int} {l2 : Int} {l3 : Int}
    (h : (l1 < l3 → zgo w (d + 1) 210 65 [zR 81, zI l1, zI l2, zI 1, zJ, zJ, zJ, zJ, zJ] [] H (zQI K)) ∧ (l3 ≤ l1 → (0 ≤ l3 ∧ l3 < 501) ∧ zgo w (d + 1) 210 45 [zR 81, zI l1, zI l2, zI (w32 (l3 + 1)), zJ, zJ, zJ, zJ, zJ] [] (zup H 92 l3 l3) (zQI K))) :
    zgo w (d + 1) 210 45 [zR 81, zI l1, zI l2, zI l3, zJ, zJ, zJ, zJ, zJ] [] H (zQI K) := by
  refine g_il zp210 rfl rfl rfl ?_
  refine g_il zp210 rfl rfl rfl ?_
  refine g_icmp zp210 rfl rfl zc4 (fun c1 => ?_) (fun c1 => ?_)
  · replace h := h.1 c1
    refine g_ic zp210 rfl rfl ?_
    refine g_is (ls' := [zR 81, zI l1, zI l2, zI 1, zJ, zJ, zJ, zJ, zJ]) zp210 rfl rfl (Nat.le_of_ble_eq_true rfl) rfl ?_
    exact g_weak (ls' := [zR 81, zI l1, zI l2, zI 1, zJ, zJ, zJ, zJ, zJ]) ⟨Or.inr rfl, Or.inr rfl, Or.inr rfl, Or.inr rfl, Or.inr rfl, Or.inr rfl, Or.inr rfl, Or.inr rfl, Or.inr rfl, trivial⟩ h
  · replace h := h.2 c1
    refine g_al zp210 rfl rfl rfl (by decide) ?_
    refine g_get (v := zR 92) zp210 rfl rfl rfl ⟨rfl, by decide, (by decide)⟩ rfl ?_
    refine g_il zp210 rfl rfl rfl ?_
    refine g_il zp210 rfl rfl rfl ?_
    obtain ⟨c2, h⟩ := h
    refine g_iast zp210 rfl rfl rfl (by decide) rfl c2 ?_
    refine g_inc (ls' := [zR 81, zI l1, zI l2, zI (w32 (l3 + 1)), zJ, zJ, zJ, zJ, zJ]) zp210 rfl rfl rfl rfl ?_
    refine g_goto zp210 rfl ?_
    exact g_weak (ls' := [zR 81, zI l1, zI l2, zI (w32 (l3 + 1)), zJ, zJ, zJ, zJ, zJ]) ⟨Or.inr rfl, Or.inr rfl, Or.inr rfl, Or.inr rfl, Or.inr rfl, Or.inr rfl, Or.inr rfl, Or.inr rfl, Or.inr rfl, trivial⟩ h
theorem x210_65 {w : zWt} {d : Nat} {H : zHt} {K : Int → zHt → Prop} {l1 : Int} {l2 : Int} {l3 : Int}
    (h : (l1 < l3 → zgo w (d + 1) 210 118 [zR 81, zI l1, zI l2, zI 0, zI 0, zI 0, zI 0, zI 1, zJ] [] H (zQI K)) ∧ (l3 ≤ l1 → (0 ≤ l3 ∧ l3 < 2001) ∧ zclI w d 173 [zL (H 90 l3), zL 1, zL l1] H (fun x4 H3 => (x4 = 0 → zgo w (d + 1) 210 65 [zR 81, zI l1, zI l2, zI (w32 (l3 + 1)), zJ, zJ, zJ, zJ, zJ] [] H3 (zQI K)) ∧ (¬ x4 = 0 → zclV w d 211 [zR 81, zI l3, zI (w32 (H3 90 l3)), zI l1] H3 (fun H6 => zgo w (d + 1) 210 65 [zR 81, zI l1, zI l2, zI (w32 (l3 + 1)), zJ, zJ, zJ, zJ, zJ] [] H6 (zQI K)))))) :
    zgo w (d + 1) 210 65 [zR 81, zI l1, zI l2, zI l3, zJ, zJ, zJ, zJ, zJ] [] H (zQI K) := by
  refine g_il zp210 rfl rfl rfl ?_
  refine g_il zp210 rfl rfl rfl ?_
  refine g_icmp zp210 rfl rfl zc4 (fun c1 => ?_) (fun c1 => ?_)
  · replace h := h.1 c1
    refine g_ic zp210 rfl rfl ?_
    refine g_is (ls' := [zR 81, zI l1, zI l2, zI 0, zJ, zJ, zJ, zJ, zJ]) zp210 rfl rfl (Nat.le_of_ble_eq_true rfl) rfl ?_
    refine g_ic zp210 rfl rfl ?_
    refine g_is (ls' := [zR 81, zI l1, zI l2, zI 0, zI 0, zJ, zJ, zJ, zJ]) zp210 rfl rfl (Nat.le_of_ble_eq_true rfl) rfl ?_
    refine g_ic zp210 rfl rfl ?_
    refine g_is (ls' := [zR 81, zI l1, zI l2, zI 0, zI 0, zI 0, zJ, zJ, zJ]) zp210 rfl rfl (Nat.le_of_ble_eq_true rfl) rfl ?_
    refine g_ic zp210 rfl rfl ?_
    refine g_is (ls' := [zR 81, zI l1, zI l2, zI 0, zI 0, zI 0, zI 0, zJ, zJ]) zp210 rfl rfl (Nat.le_of_ble_eq_true rfl) rfl ?_
    refine g_ic zp210 rfl rfl ?_
    refine g_is (ls' := [zR 81, zI l1, zI l2, zI 0, zI 0, zI 0, zI 0, zI 1, zJ]) zp210 rfl rfl (Nat.le_of_ble_eq_true rfl) rfl ?_
    exact g_weak (ls' := [zR 81, zI l1, zI l2, zI 0, zI 0, zI 0, zI 0, zI 1, zJ]) ⟨Or.inr rfl, Or.inr rfl, Or.inr rfl, Or.inr rfl, Or.inr rfl, Or.inr rfl, Or.inr rfl, Or.inr rfl, Or.inr rfl, trivial⟩ h
  · replace h := h.2 c1
    refine g_al zp210 rfl rfl rfl (by decide) ?_
    refine g_get (v := zR 90) zp210 rfl rfl rfl ⟨rfl, by decide, (by decide)⟩ rfl ?_
    refine g_il zp210 rfl rfl rfl ?_
    obtain ⟨c2, h⟩ := h
    refine g_ald (v := zL (H 90 l3)) zp210 rfl rfl rfl rfl c2 rfl ?_
    refine g_lc zp210 rfl rfl ?_
    refine g_il zp210 rfl rfl rfl ?_
    refine g_i2l zp210 rfl rfl ?_
    refine g_callI (as := [zL (H 90 l3), zL 1, zL l1]) (rest := []) zp210 rfl rfl (Nat.succ_pos _) rfl rfl (Nat.le_of_ble_eq_true rfl) (Nat.le_of_ble_eq_true rfl) rfl rfl h (fun x4 H3 h => ?_)
    refine g_if zp210 rfl rfl zc0 (fun c5 => ?_) (fun c5 => ?_)
    · replace h := h.1 c5
      refine g_inc (ls' := [zR 81, zI l1, zI l2, zI (w32 (l3 + 1)), zJ, zJ, zJ, zJ, zJ]) zp210 rfl rfl rfl rfl ?_
      refine g_goto zp210 rfl ?_
      exact g_weak (ls' := [zR 81, zI l1, zI l2, zI (w32 (l3 + 1)), zJ, zJ, zJ, zJ, zJ]) ⟨Or.inr rfl, Or.inr rfl, Or.inr rfl, Or.inr rfl, Or.inr rfl, Or.inr rfl, Or.inr rfl, Or.inr rfl, Or.inr rfl, trivial⟩ h
    · replace h := h.2 c5
      refine g_al zp210 rfl rfl rfl (by decide) ?_
      refine g_il zp210 rfl rfl rfl ?_
      refine g_al zp210 rfl rfl rfl (by decide) ?_
      refine g_get (v := zR 90) zp210 rfl rfl rfl ⟨rfl, by decide, (by decide)⟩ rfl ?_
      refine g_il zp210 rfl rfl rfl ?_
      refine g_ald (v := zL (H3 90 l3)) zp210 rfl rfl rfl rfl c2 rfl ?_
      refine g_l2i zp210 rfl rfl ?_
      refine g_il zp210 rfl rfl rfl ?_
      refine g_callV (as := [zR 81, zI l3, zI (w32 (H3 90 l3)), zI l1]) (rest := []) zp210 rfl rfl (Nat.succ_pos _) rfl rfl (Nat.le_of_ble_eq_true rfl) (Nat.le_of_ble_eq_true rfl) rfl rfl h (fun H6 h => ?_)
      refine g_inc (ls' := [zR 81, zI l1, zI l2, zI (w32 (l3 + 1)), zJ, zJ, zJ, zJ, zJ]) zp210 rfl rfl rfl rfl ?_
      refine g_goto zp210 rfl ?_
      exact g_weak (ls' := [zR 81, zI l1, zI l2, zI (w32 (l3 + 1)), zJ, zJ, zJ, zJ, zJ]) ⟨Or.inr rfl, Or.inr rfl, Or.inr rfl, Or.inr rfl, Or.inr rfl, Or.inr rfl, Or.inr rfl, Or.inr rfl, Or.inr rfl, trivial⟩ h
theorem x210_118 {w : zWt} {d : Nat} {H : zHt} {K : Int → zHt → Prop} {l1 : Int} {l2 : Int} {l3 : Int} {l4 : Int} {l5 : Int} {l6 : Int} {l7 : Int}
    (h : (l1 < l7 → (¬ l2 = 0 → (¬ l2 = 1 → (¬ l2 = 2 → K l4 H) ∧ (l2 = 2 → K l6 H)) ∧ (l2 = 1 → K l5 H)) ∧ (l2 = 0 → K l3 H)) ∧ (l7 ≤ l1 → (0 ≤ l7 ∧ l7 < 501) ∧ ((H 92 l7) = l7 → zclI w d 212 [zR 81, zI l7, zI l1] H (fun x8 H7 => (¬ x8 = 1 → (l5 < x8 → zgo w (d + 1) 210 118 [zR 81, zI l1, zI l2, zI (w32 (l3 + 1)), zI (w32 (l4 + 0)), zI x8, zI l7, zI (w32 (l7 + 1)), zJ] [] H7 (zQI K)) ∧ (x8 ≤ l5 → zgo w (d + 1) 210 118 [zR 81, zI l1, zI l2, zI (w32 (l3 + 1)), zI (w32 (l4 + 0)), zI l5, zI l6, zI (w32 (l7 + 1)), zJ] [] H7 (zQI K))) ∧ (x8 = 1 → (l5 < x8 → zgo w (d + 1) 210 118 [zR 81, zI l1, zI l2, zI (w32 (l3 + 1)), zI (w32 (l4 + 1)), zI x8, zI l7, zI (w32 (l7 + 1)), zJ] [] H7 (zQI K)) ∧ (x8 ≤ l5 → zgo w (d + 1) 210 118 [zR 81, zI l1, zI l2, zI (w32 (l3 + 1)), zI (w32 (l4 + 1)), zI l5, zI l6, zI (w32 (l7 + 1)), zJ] [] H7 (zQI K))))) ∧ (¬ (H 92 l7) = l7 → zgo w (d + 1) 210 118 [zR 81, zI l1, zI l2, zI l3, zI l4, zI l5, zI l6, zI (w32 (l7 + 1)), zJ] [] H (zQI K)))) :
    zgo w (d + 1) 210 118 [zR 81, zI l1, zI l2, zI l3, zI l4, zI l5, zI l6, zI l7, zJ] [] H (zQI K) := by
  refine g_il zp210 rfl rfl rfl ?_
  refine g_il zp210 rfl rfl rfl ?_
  refine g_icmp zp210 rfl rfl zc4 (fun c1 => ?_) (fun c1 => ?_)
  · replace h := h.1 c1
    refine g_il zp210 rfl rfl rfl ?_
    refine g_if zp210 rfl rfl zc1 (fun c2 => ?_) (fun c2 => ?_)
    · replace h := h.1 c2
      refine g_il zp210 rfl rfl rfl ?_
      refine g_ic zp210 rfl rfl ?_
      refine g_icmp zp210 rfl rfl zc1 (fun c3 => ?_) (fun c3 => ?_)
      · replace h := h.1 c3
        refine g_il zp210 rfl rfl rfl ?_
        refine g_ic zp210 rfl rfl ?_
        refine g_icmp zp210 rfl rfl zc1 (fun c4 => ?_) (fun c4 => ?_)
        · replace h := h.1 c4
          refine g_il zp210 rfl rfl rfl ?_
          exact g_ret zp210 rfl rfl ⟨_, rfl, h⟩
        · replace h := h.2 c4
          refine g_il zp210 rfl rfl rfl ?_
          refine g_goto zp210 rfl ?_
          exact g_ret zp210 rfl rfl ⟨_, rfl, h⟩
      · replace h := h.2 c3
        refine g_il zp210 rfl rfl rfl ?_
        refine g_goto zp210 rfl ?_
        exact g_ret zp210 rfl rfl ⟨_, rfl, h⟩
    · replace h := h.2 c2
      refine g_il zp210 rfl rfl rfl ?_
      refine g_goto zp210 rfl ?_
      exact g_ret zp210 rfl rfl ⟨_, rfl, h⟩
  · replace h := h.2 c1
    refine g_al zp210 rfl rfl rfl (by decide) ?_
    refine g_get (v := zR 92) zp210 rfl rfl rfl ⟨rfl, by decide, (by decide)⟩ rfl ?_
    refine g_il zp210 rfl rfl rfl ?_
    obtain ⟨c5, h⟩ := h
    refine g_ald (v := zI (H 92 l7)) zp210 rfl rfl rfl rfl c5 rfl ?_
    refine g_il zp210 rfl rfl rfl ?_
    refine g_icmp zp210 rfl rfl zc0 (fun c6 => ?_) (fun c6 => ?_)
    · replace h := h.1 c6
      refine g_al zp210 rfl rfl rfl (by decide) ?_
      refine g_il zp210 rfl rfl rfl ?_
      refine g_il zp210 rfl rfl rfl ?_
      refine g_callI (as := [zR 81, zI l7, zI l1]) (rest := []) zp210 rfl rfl (Nat.succ_pos _) rfl rfl (Nat.le_of_ble_eq_true rfl) (Nat.le_of_ble_eq_true rfl) rfl rfl h (fun x8 H7 h => ?_)
      refine g_is (ls' := [zR 81, zI l1, zI l2, zI l3, zI l4, zI l5, zI l6, zI l7, zI x8]) zp210 rfl rfl (Nat.le_of_ble_eq_true rfl) rfl ?_
      refine g_inc (ls' := [zR 81, zI l1, zI l2, zI (w32 (l3 + 1)), zI l4, zI l5, zI l6, zI l7, zI x8]) zp210 rfl rfl rfl rfl ?_
      refine g_il zp210 rfl rfl rfl ?_
      refine g_il zp210 rfl rfl rfl ?_
      refine g_ic zp210 rfl rfl ?_
      refine g_icmp zp210 rfl rfl zc1 (fun c9 => ?_) (fun c9 => ?_)
      · replace h := h.1 c9
        refine g_ic zp210 rfl rfl ?_
        refine g_ar (r := w32 (l4 + 0)) zp210 rfl rfl rfl ?_
        refine g_is (ls' := [zR 81, zI l1, zI l2, zI (w32 (l3 + 1)), zI (w32 (l4 + 0)), zI l5, zI l6, zI l7, zI x8]) zp210 rfl rfl (Nat.le_of_ble_eq_true rfl) rfl ?_
        refine g_il zp210 rfl rfl rfl ?_
        refine g_il zp210 rfl rfl rfl ?_
        refine g_icmp zp210 rfl rfl zc4 (fun c10 => ?_) (fun c10 => ?_)
        · replace h := h.1 c10
          refine g_il zp210 rfl rfl rfl ?_
          refine g_is (ls' := [zR 81, zI l1, zI l2, zI (w32 (l3 + 1)), zI (w32 (l4 + 0)), zI x8, zI l6, zI l7, zI x8]) zp210 rfl rfl (Nat.le_of_ble_eq_true rfl) rfl ?_
          refine g_il zp210 rfl rfl rfl ?_
          refine g_is (ls' := [zR 81, zI l1, zI l2, zI (w32 (l3 + 1)), zI (w32 (l4 + 0)), zI x8, zI l7, zI l7, zI x8]) zp210 rfl rfl (Nat.le_of_ble_eq_true rfl) rfl ?_
          refine g_inc (ls' := [zR 81, zI l1, zI l2, zI (w32 (l3 + 1)), zI (w32 (l4 + 0)), zI x8, zI l7, zI (w32 (l7 + 1)), zI x8]) zp210 rfl rfl rfl rfl ?_
          refine g_goto zp210 rfl ?_
          exact g_weak (ls' := [zR 81, zI l1, zI l2, zI (w32 (l3 + 1)), zI (w32 (l4 + 0)), zI x8, zI l7, zI (w32 (l7 + 1)), zJ]) ⟨Or.inr rfl, Or.inr rfl, Or.inr rfl, Or.inr rfl, Or.inr rfl, Or.inr rfl, Or.inr rfl, Or.inr rfl, Or.inl rfl, trivial⟩ h
        · replace h := h.2 c10
          refine g_goto zp210 rfl ?_
          refine g_inc (ls' := [zR 81, zI l1, zI l2, zI (w32 (l3 + 1)), zI (w32 (l4 + 0)), zI l5, zI l6, zI (w32 (l7 + 1)), zI x8]) zp210 rfl rfl rfl rfl ?_
          refine g_goto zp210 rfl ?_
          exact g_weak (ls' := [zR 81, zI l1, zI l2, zI (w32 (l3 + 1)), zI (w32 (l4 + 0)), zI l5, zI l6, zI (w32 (l7 + 1)), zJ]) ⟨Or.inr rfl, Or.inr rfl, Or.inr rfl, Or.inr rfl, Or.inr rfl, Or.inr rfl, Or.inr rfl, Or.inr rfl, Or.inl rfl, trivial⟩ h
      · replace h := h.2 c9
        refine g_ic zp210 rfl rfl ?_
        refine g_goto zp210 rfl ?_
        refine g_ar (r := w32 (l4 + 1)) zp210 rfl rfl rfl ?_
        refine g_is (ls' := [zR 81, zI l1, zI l2, zI (w32 (l3 + 1)), zI (w32 (l4 + 1)), zI l5, zI l6, zI l7, zI x8]) zp210 rfl rfl (Nat.le_of_ble_eq_true rfl) rfl ?_
        refine g_il zp210 rfl rfl rfl ?_
        refine g_il zp210 rfl rfl rfl ?_
        refine g_icmp zp210 rfl rfl zc4 (fun c11 => ?_) (fun c11 => ?_)
        · replace h := h.1 c11
          refine g_il zp210 rfl rfl rfl ?_
          refine g_is (ls' := [zR 81, zI l1, zI l2, zI (w32 (l3 + 1)), zI (w32 (l4 + 1)), zI x8, zI l6, zI l7, zI x8]) zp210 rfl rfl (Nat.le_of_ble_eq_true rfl) rfl ?_
          refine g_il zp210 rfl rfl rfl ?_
          refine g_is (ls' := [zR 81, zI l1, zI l2, zI (w32 (l3 + 1)), zI (w32 (l4 + 1)), zI x8, zI l7, zI l7, zI x8]) zp210 rfl rfl (Nat.le_of_ble_eq_true rfl) rfl ?_
          refine g_inc (ls' := [zR 81, zI l1, zI l2, zI (w32 (l3 + 1)), zI (w32 (l4 + 1)), zI x8, zI l7, zI (w32 (l7 + 1)), zI x8]) zp210 rfl rfl rfl rfl ?_
          refine g_goto zp210 rfl ?_
          exact g_weak (ls' := [zR 81, zI l1, zI l2, zI (w32 (l3 + 1)), zI (w32 (l4 + 1)), zI x8, zI l7, zI (w32 (l7 + 1)), zJ]) ⟨Or.inr rfl, Or.inr rfl, Or.inr rfl, Or.inr rfl, Or.inr rfl, Or.inr rfl, Or.inr rfl, Or.inr rfl, Or.inl rfl, trivial⟩ h
        · replace h := h.2 c11
          refine g_goto zp210 rfl ?_
          refine g_inc (ls' := [zR 81, zI l1, zI l2, zI (w32 (l3 + 1)), zI (w32 (l4 + 1)), zI l5, zI l6, zI (w32 (l7 + 1)), zI x8]) zp210 rfl rfl rfl rfl ?_
          refine g_goto zp210 rfl ?_
          exact g_weak (ls' := [zR 81, zI l1, zI l2, zI (w32 (l3 + 1)), zI (w32 (l4 + 1)), zI l5, zI l6, zI (w32 (l7 + 1)), zJ]) ⟨Or.inr rfl, Or.inr rfl, Or.inr rfl, Or.inr rfl, Or.inr rfl, Or.inr rfl, Or.inr rfl, Or.inr rfl, Or.inl rfl, trivial⟩ h
    · replace h := h.2 c6
      refine g_goto zp210 rfl ?_
      refine g_inc (ls' := [zR 81, zI l1, zI l2, zI l3, zI l4, zI l5, zI l6, zI (w32 (l7 + 1)), zJ]) zp210 rfl rfl rfl rfl ?_
      refine g_goto zp210 rfl ?_
      exact g_weak (ls' := [zR 81, zI l1, zI l2, zI l3, zI l4, zI l5, zI l6, zI (w32 (l7 + 1)), zJ]) ⟨Or.inr rfl, Or.inr rfl, Or.inr rfl, Or.inr rfl, Or.inr rfl, Or.inr rfl, Or.inr rfl, Or.inr rfl, Or.inr rfl, trivial⟩ h
theorem zp211 : zprog.getD 211 [] = zk211 := rfl
theorem x211_0 {w : zWt} {d : Nat} {H : zHt} {K : zHt → Prop} {l1 : Int} {l2 : Int} {l3 : Int}
    (h : (0 ≤ l1 ∧ l1 < 501) ∧ (0 ≤ l2 ∧ l2 < 501) ∧ ((H 92 l2) ≤ (H 92 l1) → zgo w d 211 53 [zR 81, zJ, zJ, zI l3, zI (H 92 l2), zI (w32 ((w32 ((H 92 l1) + (H 92 l2))) - (H 92 l2))), zI 1] [] H (zQV K)) ∧ ((H 92 l1) < (H 92 l2) → zgo w d 211 53 [zR 81, zJ, zJ, zI l3, zI (H 92 l1), zI (w32 ((w32 ((H 92 l1) + (H 92 l2))) - (H 92 l1))), zI 1] [] H (zQV K))) :
    zclV w d 211 [zR 81, zI l1, zI l2, zI l3] H K := by
  show zgo w d 211 0 [zR 81, zI l1, zI l2, zI l3, zJ, zJ, zJ] [] H (zQV K)
  refine g_al zp211 rfl rfl rfl (by decide) ?_
  refine g_get (v := zR 92) zp211 rfl rfl rfl ⟨rfl, by decide, (by decide)⟩ rfl ?_
  refine g_il zp211 rfl rfl rfl ?_
  obtain ⟨c1, h⟩ := h
  refine g_ald (v := zI (H 92 l1)) zp211 rfl rfl rfl rfl c1 rfl ?_
  refine g_al zp211 rfl rfl rfl (by decide) ?_
  refine g_get (v := zR 92) zp211 rfl rfl rfl ⟨rfl, by decide, (by decide)⟩ rfl ?_
  refine g_il zp211 rfl rfl rfl ?_
  obtain ⟨c2, h⟩ := h
  refine g_ald (v := zI (H 92 l2)) zp211 rfl rfl rfl rfl c2 rfl ?_
  refine g_icmp zp211 rfl rfl zc3 (fun c3 => ?_) (fun c3 => ?_)
  · replace h := h.1 c3
    refine g_al zp211 rfl rfl rfl (by decide) ?_
    refine g_get (v := zR 92) zp211 rfl rfl rfl ⟨rfl, by decide, (by decide)⟩ rfl ?_
    refine g_il zp211 rfl rfl rfl ?_
    refine g_ald (v := zI (H 92 l2)) zp211 rfl rfl rfl rfl c2 rfl ?_
    refine g_is (ls' := [zR 81, zI l1, zI l2, zI l3, zI (H 92 l2), zJ, zJ]) zp211 rfl rfl (Nat.le_of_ble_eq_true rfl) rfl ?_
    refine g_al zp211 rfl rfl rfl (by decide) ?_
    refine g_get (v := zR 92) zp211 rfl rfl rfl ⟨rfl, by decide, (by decide)⟩ rfl ?_
    refine g_il zp211 rfl rfl rfl ?_
    refine g_ald (v := zI (H 92 l1)) zp211 rfl rfl rfl rfl c1 rfl ?_
    refine g_al zp211 rfl rfl rfl (by decide) ?_
    refine g_get (v := zR 92) zp211 rfl rfl rfl ⟨rfl, by decide, (by decide)⟩ rfl ?_
    refine g_il zp211 rfl rfl rfl ?_
    refine g_ald (v := zI (H 92 l2)) zp211 rfl rfl rfl rfl c2 rfl ?_
    refine g_ar (r := w32 ((H 92 l1) + (H 92 l2))) zp211 rfl rfl rfl ?_
    refine g_il zp211 rfl rfl rfl ?_
    refine g_ar (r := w32 ((w32 ((H 92 l1) + (H 92 l2))) - (H 92 l2))) zp211 rfl rfl rfl ?_
    refine g_is (ls' := [zR 81, zI l1, zI l2, zI l3, zI (H 92 l2), zI (w32 ((w32 ((H 92 l1) + (H 92 l2))) - (H 92 l2))), zJ]) zp211 rfl rfl (Nat.le_of_ble_eq_true rfl) rfl ?_
    refine g_ic zp211 rfl rfl ?_
    refine g_is (ls' := [zR 81, zI l1, zI l2, zI l3, zI (H 92 l2), zI (w32 ((w32 ((H 92 l1) + (H 92 l2))) - (H 92 l2))), zI 1]) zp211 rfl rfl (Nat.le_of_ble_eq_true rfl) rfl ?_
    exact g_weak (ls' := [zR 81, zJ, zJ, zI l3, zI (H 92 l2), zI (w32 ((w32 ((H 92 l1) + (H 92 l2))) - (H 92 l2))), zI 1]) ⟨Or.inr rfl, Or.inl rfl, Or.inl rfl, Or.inr rfl, Or.inr rfl, Or.inr rfl, Or.inr rfl, trivial⟩ h
  · replace h := h.2 c3
    refine g_al zp211 rfl rfl rfl (by decide) ?_
    refine g_get (v := zR 92) zp211 rfl rfl rfl ⟨rfl, by decide, (by decide)⟩ rfl ?_
    refine g_il zp211 rfl rfl rfl ?_
    refine g_ald (v := zI (H 92 l1)) zp211 rfl rfl rfl rfl c1 rfl ?_
    refine g_goto zp211 rfl ?_
    refine g_is (ls' := [zR 81, zI l1, zI l2, zI l3, zI (H 92 l1), zJ, zJ]) zp211 rfl rfl (Nat.le_of_ble_eq_true rfl) rfl ?_
    refine g_al zp211 rfl rfl rfl (by decide) ?_
    refine g_get (v := zR 92) zp211 rfl rfl rfl ⟨rfl, by decide, (by decide)⟩ rfl ?_
    refine g_il zp211 rfl rfl rfl ?_
    refine g_ald (v := zI (H 92 l1)) zp211 rfl rfl rfl rfl c1 rfl ?_
    refine g_al zp211 rfl rfl rfl (by decide) ?_
    refine g_get (v := zR 92) zp211 rfl rfl rfl ⟨rfl, by decide, (by decide)⟩ rfl ?_
    refine g_il zp211 rfl rfl rfl ?_
    refine g_ald (v := zI (H 92 l2)) zp211 rfl rfl rfl rfl c2 rfl ?_
    refine g_ar (r := w32 ((H 92 l1) + (H 92 l2))) zp211 rfl rfl rfl ?_
    refine g_il zp211 rfl rfl rfl ?_
    refine g_ar (r := w32 ((w32 ((H 92 l1) + (H 92 l2))) - (H 92 l1))) zp211 rfl rfl rfl ?_
    refine g_is (ls' := [zR 81, zI l1, zI l2, zI l3, zI (H 92 l1), zI (w32 ((w32 ((H 92 l1) + (H 92 l2))) - (H 92 l1))), zJ]) zp211 rfl rfl (Nat.le_of_ble_eq_true rfl) rfl ?_
    refine g_ic zp211 rfl rfl ?_
    refine g_is (ls' := [zR 81, zI l1, zI l2, zI l3, zI (H 92 l1), zI (w32 ((w32 ((H 92 l1) + (H 92 l2))) - (H 92 l1))), zI 1]) zp211 rfl rfl (Nat.le_of_ble_eq_true rfl) rfl ?_
    exact g_weak (ls' := [zR 81, zJ, zJ, zI l3, zI (H 92 l1), zI (w32 ((w32 ((H 92 l1) + (H 92 l2))) - (H 92 l1))), zI 1]) ⟨Or.inr rfl, Or.inl rfl, Or.inl rfl, Or.inr rfl, Or.inr rfl, Or.inr rfl, Or.inr rfl, trivial⟩ h
theorem x211_53 {w : zWt} {d : Nat} {H : zHt} {K : zHt → Prop} {l3 : Int} {l4 : Int} {l5 : Int} {l6 : Int}
    (h : (l3 < l6 → K H) ∧ (l6 ≤ l3 → (0 ≤ l6 ∧ l6 < 501) ∧ (¬ (H 92 l6) = l5 → zgo w d 211 53 [zR 81, zJ, zJ, zI l3, zI l4, zI l5, zI (w32 (l6 + 1))] [] (zup H 92 l6 (H 92 l6)) (zQV K)) ∧ ((H 92 l6) = l5 → zgo w d 211 53 [zR 81, zJ, zJ, zI l3, zI l4, zI l5, zI (w32 (l6 + 1))] [] (zup H 92 l6 l4) (zQV K)))) :
    zgo w d 211 53 [zR 81, zJ, zJ, zI l3, zI l4, zI l5, zI l6] [] H (zQV K) := by
  refine g_il zp211 rfl rfl rfl ?_
  refine g_il zp211 rfl rfl rfl ?_
  refine g_icmp zp211 rfl rfl zc4 (fun c1 => ?_) (fun c1 => ?_)
  · replace h := h.1 c1
    exact g_ret zp211 rfl rfl ⟨rfl, h⟩
  · replace h := h.2 c1
    refine g_al zp211 rfl rfl rfl (by decide) ?_
    refine g_get (v := zR 92) zp211 rfl rfl rfl ⟨rfl, by decide, (by decide)⟩ rfl ?_
    refine g_il zp211 rfl rfl rfl ?_
    refine g_al zp211 rfl rfl rfl (by decide) ?_
    refine g_get (v := zR 92) zp211 rfl rfl rfl ⟨rfl, by decide, (by decide)⟩ rfl ?_
    refine g_il zp211 rfl rfl rfl ?_
    obtain ⟨c2, h⟩ := h
    refine g_ald (v := zI (H 92 l6)) zp211 rfl rfl rfl rfl c2 rfl ?_
    refine g_il zp211 rfl rfl rfl ?_
    refine g_icmp zp211 rfl rfl zc1 (fun c3 => ?_) (fun c3 => ?_)
    · replace h := h.1 c3
      refine g_al zp211 rfl rfl rfl (by decide) ?_
      refine g_get (v := zR 92) zp211 rfl rfl rfl ⟨rfl, by decide, (by decide)⟩ rfl ?_
      refine g_il zp211 rfl rfl rfl ?_
      refine g_ald (v := zI (H 92 l6)) zp211 rfl rfl rfl rfl c2 rfl ?_
      refine g_iast zp211 rfl rfl rfl (by decide) rfl c2 ?_
      refine g_inc (ls' := [zR 81, zJ, zJ, zI l3, zI l4, zI l5, zI (w32 (l6 + 1))]) zp211 rfl rfl rfl rfl ?_
      refine g_goto zp211 rfl ?_
      exact g_weak (ls' := [zR 81, zJ, zJ, zI l3, zI l4, zI l5, zI (w32 (l6 + 1))]) ⟨Or.inr rfl, Or.inr rfl, Or.inr rfl, Or.inr rfl, Or.inr rfl, Or.inr rfl, Or.inr rfl, trivial⟩ h
    · replace h := h.2 c3
      refine g_il zp211 rfl rfl rfl ?_
      refine g_goto zp211 rfl ?_
      refine g_iast zp211 rfl rfl rfl (by decide) rfl c2 ?_
      refine g_inc (ls' := [zR 81, zJ, zJ, zI l3, zI l4, zI l5, zI (w32 (l6 + 1))]) zp211 rfl rfl rfl rfl ?_
      refine g_goto zp211 rfl ?_
      exact g_weak (ls' := [zR 81, zJ, zJ, zI l3, zI l4, zI l5, zI (w32 (l6 + 1))]) ⟨Or.inr rfl, Or.inr rfl, Or.inr rfl, Or.inr rfl, Or.inr rfl, Or.inr rfl, Or.inr rfl, trivial⟩ h
theorem zp212 : zprog.getD 212 [] = zk212 := rfl
theorem x212_0 {w : zWt} {d : Nat} {H : zHt} {K : Int → zHt → Prop} {l1 : Int} {l2 : Int}
    (h : zgo w d 212 5 [zR 81, zI l1, zI l2, zI 0, zI 1] [] H (zQI K)) :
    zclI w d 212 [zR 81, zI l1, zI l2] H K := by
  show zgo w d 212 0 [zR 81, zI l1, zI l2, zJ, zJ] [] H (zQI K)
  refine g_ic zp212 rfl rfl ?_
  refine g_is (ls' := [zR 81, zI l1, zI l2, zI 0, zJ]) zp212 rfl rfl (Nat.le_of_ble_eq_true rfl) rfl ?_
  refine g_ic zp212 rfl rfl ?_
  refine g_is (ls' := [zR 81, zI l1, zI l2, zI 0, zI 1]) zp212 rfl rfl (Nat.le_of_ble_eq_true rfl) rfl ?_
  exact g_weak (ls' := [zR 81, zI l1, zI l2, zI 0, zI 1]) ⟨Or.inr rfl, Or.inr rfl, Or.inr rfl, Or.inr rfl, Or.inr rfl, trivial⟩ h
theorem x212_5 {w : zWt} {d : Nat} {H : zHt} {K : Int → zHt → Prop} {l1 : Int} {l2 : Int} {l3 : Int} {l4 : Int}
    (h : (l2 < l4 → K l3 H) ∧ (l4 ≤ l2 → (0 ≤ l4 ∧ l4 < 501) ∧ (¬ (H 92 l4) = l1 → zgo w d 212 5 [zR 81, zI l1, zI l2, zI (w32 (l3 + 0)), zI (w32 (l4 + 1))] [] H (zQI K)) ∧ ((H 92 l4) = l1 → zgo w d 212 5 [zR 81, zI l1, zI l2, zI (w32 (l3 + 1)), zI (w32 (l4 + 1))] [] H (zQI K)))) :
    zgo w d 212 5 [zR 81, zI l1, zI l2, zI l3, zI l4] [] H (zQI K) := by
  refine g_il zp212 rfl rfl rfl ?_
  refine g_il zp212 rfl rfl rfl ?_
  refine g_icmp zp212 rfl rfl zc4 (fun c1 => ?_) (fun c1 => ?_)
  · replace h := h.1 c1
    refine g_il zp212 rfl rfl rfl ?_
    exact g_ret zp212 rfl rfl ⟨_, rfl, h⟩
  · replace h := h.2 c1
    refine g_il zp212 rfl rfl rfl ?_
    refine g_al zp212 rfl rfl rfl (by decide) ?_
    refine g_get (v := zR 92) zp212 rfl rfl rfl ⟨rfl, by decide, (by decide)⟩ rfl ?_
    refine g_il zp212 rfl rfl rfl ?_
    obtain ⟨c2, h⟩ := h
    refine g_ald (v := zI (H 92 l4)) zp212 rfl rfl rfl rfl c2 rfl ?_
    refine g_il zp212 rfl rfl rfl ?_
    refine g_icmp zp212 rfl rfl zc1 (fun c3 => ?_) (fun c3 => ?_)
    · replace h := h.1 c3
      refine g_ic zp212 rfl rfl ?_
      refine g_ar (r := w32 (l3 + 0)) zp212 rfl rfl rfl ?_
      refine g_is (ls' := [zR 81, zI l1, zI l2, zI (w32 (l3 + 0)), zI l4]) zp212 rfl rfl (Nat.le_of_ble_eq_true rfl) rfl ?_
      refine g_inc (ls' := [zR 81, zI l1, zI l2, zI (w32 (l3 + 0)), zI (w32 (l4 + 1))]) zp212 rfl rfl rfl rfl ?_
      refine g_goto zp212 rfl ?_
      exact g_weak (ls' := [zR 81, zI l1, zI l2, zI (w32 (l3 + 0)), zI (w32 (l4 + 1))]) ⟨Or.inr rfl, Or.inr rfl, Or.inr rfl, Or.inr rfl, Or.inr rfl, trivial⟩ h
    · replace h := h.2 c3
      refine g_ic zp212 rfl rfl ?_
      refine g_goto zp212 rfl ?_
      refine g_ar (r := w32 (l3 + 1)) zp212 rfl rfl rfl ?_
      refine g_is (ls' := [zR 81, zI l1, zI l2, zI (w32 (l3 + 1)), zI l4]) zp212 rfl rfl (Nat.le_of_ble_eq_true rfl) rfl ?_
      refine g_inc (ls' := [zR 81, zI l1, zI l2, zI (w32 (l3 + 1)), zI (w32 (l4 + 1))]) zp212 rfl rfl rfl rfl ?_
      refine g_goto zp212 rfl ?_
      exact g_weak (ls' := [zR 81, zI l1, zI l2, zI (w32 (l3 + 1)), zI (w32 (l4 + 1))]) ⟨Or.inr rfl, Or.inr rfl, Or.inr rfl, Or.inr rfl, Or.inr rfl, trivial⟩ h
theorem zp213 : zprog.getD 213 [] = zk213 := rfl
theorem x213_0 {w : zWt} {d : Nat} {H : zHt} {K : Int → zHt → Prop} {l1 : Int} {l2 : Int}
    (h : zclI w d 173 [zL l1, zL 1, zL 2000] H (fun x2 H1 => (x2 = 0 → zclI w d 174 [zR 81, zI 1] H1 (fun x5 H4 => (¬ x5 = 0 → zgo w (d + 1) 213 42 [zR 81, zI l1, zI l2, zL 0, zJ, zL 1, zJ, zI 0, zI 1, zJ, zJ] [] H4 (zQI K)) ∧ (x5 = 0 → K (-1) H4))) ∧ (¬ x2 = 0 → (l2 < (-1) → zclI w d 174 [zR 81, zI 1] H1 (fun x9 H8 => (¬ x9 = 0 → zgo w (d + 1) 213 42 [zR 81, zI l1, zI l2, zL 0, zJ, zL 1, zJ, zI 0, zI 1, zJ, zJ] [] H8 (zQI K)) ∧ (x9 = 0 → K (-1) H8))) ∧ ((-1) ≤ l2 → zclI w d 174 [zR 81, zI 0] H1 (fun x12 H11 => (¬ x12 = 0 → zgo w (d + 1) 213 42 [zR 81, zI l1, zI l2, zL 0, zJ, zL 1, zJ, zI 0, zI 1, zJ, zJ] [] H11 (zQI K)) ∧ (x12 = 0 → K (-1) H11)))))) :
    zclI w (d + 1) 213 [zR 81, zI l1, zI l2] H K := by
  show zgo w (d + 1) 213 0 [zR 81, zI l1, zI l2, zJ, zJ, zJ, zJ, zJ, zJ, zJ, zJ] [] H (zQI K)
  refine g_al zp213 rfl rfl rfl (by decide) ?_
  refine g_il zp213 rfl rfl rfl ?_
  refine g_i2l zp213 rfl rfl ?_
  refine g_lc zp213 rfl rfl ?_
  refine g_lc zp213 rfl rfl ?_
  refine g_callI (as := [zL l1, zL 1, zL 2000]) (rest := [zR 81]) zp213 rfl rfl (Nat.succ_pos _) rfl rfl (Nat.le_of_ble_eq_true rfl) (Nat.le_of_ble_eq_true rfl) rfl rfl h (fun x2 H1 h => ?_)
  refine g_if zp213 rfl rfl zc0 (fun c3 => ?_) (fun c3 => ?_)
  · replace h := h.1 c3
    refine g_ic zp213 rfl rfl ?_
    refine g_callI (as := [zR 81, zI 1]) (rest := []) zp213 rfl rfl (Nat.succ_pos _) rfl rfl (Nat.le_of_ble_eq_true rfl) (Nat.le_of_ble_eq_true rfl) rfl rfl h (fun x5 H4 h => ?_)
    refine g_if zp213 rfl rfl zc1 (fun c6 => ?_) (fun c6 => ?_)
    · replace h := h.1 c6
      refine g_lc zp213 rfl rfl ?_
      refine g_ls (ls' := [zR 81, zI l1, zI l2, zL 0, zJ, zJ, zJ, zJ, zJ, zJ, zJ]) zp213 rfl rfl (Nat.le_of_ble_eq_true rfl) rfl ?_
      refine g_lc zp213 rfl rfl ?_
      refine g_ls (ls' := [zR 81, zI l1, zI l2, zL 0, zJ, zL 1, zJ, zJ, zJ, zJ, zJ]) zp213 rfl rfl (Nat.le_of_ble_eq_true rfl) rfl ?_
      refine g_ic zp213 rfl rfl ?_
      refine g_is (ls' := [zR 81, zI l1, zI l2, zL 0, zJ, zL 1, zJ, zI 0, zJ, zJ, zJ]) zp213 rfl rfl (Nat.le_of_ble_eq_true rfl) rfl ?_
      refine g_ic zp213 rfl rfl ?_
      refine g_is (ls' := [zR 81, zI l1, zI l2, zL 0, zJ, zL 1, zJ, zI 0, zI 1, zJ, zJ]) zp213 rfl rfl (Nat.le_of_ble_eq_true rfl) rfl ?_
      exact g_weak (ls' := [zR 81, zI l1, zI l2, zL 0, zJ, zL 1, zJ, zI 0, zI 1, zJ, zJ]) ⟨Or.inr rfl, Or.inr rfl, Or.inr rfl, Or.inr rfl, Or.inr rfl, Or.inr rfl, Or.inr rfl, Or.inr rfl, Or.inr rfl, Or.inr rfl, Or.inr rfl, trivial⟩ h
    · replace h := h.2 c6
      refine g_ic zp213 rfl rfl ?_
      exact g_ret zp213 rfl rfl ⟨_, rfl, h⟩
  · replace h := h.2 c3
    refine g_il zp213 rfl rfl rfl ?_
    refine g_ic zp213 rfl rfl ?_
    refine g_icmp zp213 rfl rfl zc2 (fun c7 => ?_) (fun c7 => ?_)
    · replace h := h.1 c7
      refine g_ic zp213 rfl rfl ?_
      refine g_callI (as := [zR 81, zI 1]) (rest := []) zp213 rfl rfl (Nat.succ_pos _) rfl rfl (Nat.le_of_ble_eq_true rfl) (Nat.le_of_ble_eq_true rfl) rfl rfl h (fun x9 H8 h => ?_)
      refine g_if zp213 rfl rfl zc1 (fun c10 => ?_) (fun c10 => ?_)
      · replace h := h.1 c10
        refine g_lc zp213 rfl rfl ?_
        refine g_ls (ls' := [zR 81, zI l1, zI l2, zL 0, zJ, zJ, zJ, zJ, zJ, zJ, zJ]) zp213 rfl rfl (Nat.le_of_ble_eq_true rfl) rfl ?_
        refine g_lc zp213 rfl rfl ?_
        refine g_ls (ls' := [zR 81, zI l1, zI l2, zL 0, zJ, zL 1, zJ, zJ, zJ, zJ, zJ]) zp213 rfl rfl (Nat.le_of_ble_eq_true rfl) rfl ?_
        refine g_ic zp213 rfl rfl ?_
        refine g_is (ls' := [zR 81, zI l1, zI l2, zL 0, zJ, zL 1, zJ, zI 0, zJ, zJ, zJ]) zp213 rfl rfl (Nat.le_of_ble_eq_true rfl) rfl ?_
        refine g_ic zp213 rfl rfl ?_
        refine g_is (ls' := [zR 81, zI l1, zI l2, zL 0, zJ, zL 1, zJ, zI 0, zI 1, zJ, zJ]) zp213 rfl rfl (Nat.le_of_ble_eq_true rfl) rfl ?_
        exact g_weak (ls' := [zR 81, zI l1, zI l2, zL 0, zJ, zL 1, zJ, zI 0, zI 1, zJ, zJ]) ⟨Or.inr rfl, Or.inr rfl, Or.inr rfl, Or.inr rfl, Or.inr rfl, Or.inr rfl, Or.inr rfl, Or.inr rfl, Or.inr rfl, Or.inr rfl, Or.inr rfl, trivial⟩ h
      · replace h := h.2 c10
        refine g_ic zp213 rfl rfl ?_
        exact g_ret zp213 rfl rfl ⟨_, rfl, h⟩
    · replace h := h.2 c7
      refine g_ic zp213 rfl rfl ?_
      refine g_goto zp213 rfl ?_
      refine g_callI (as := [zR 81, zI 0]) (rest := []) zp213 rfl rfl (Nat.succ_pos _) rfl rfl (Nat.le_of_ble_eq_true rfl) (Nat.le_of_ble_eq_true rfl) rfl rfl h (fun x12 H11 h => ?_)
      refine g_if zp213 rfl rfl zc1 (fun c13 => ?_) (fun c13 => ?_)
      · replace h := h.1 c13
        refine g_lc zp213 rfl rfl ?_
        refine g_ls (ls' := [zR 81, zI l1, zI l2, zL 0, zJ, zJ, zJ, zJ, zJ, zJ, zJ]) zp213 rfl rfl (Nat.le_of_ble_eq_true rfl) rfl ?_
        refine g_lc zp213 rfl rfl ?_
        refine g_ls (ls' := [zR 81, zI l1, zI l2, zL 0, zJ, zL 1, zJ, zJ, zJ, zJ, zJ]) zp213 rfl rfl (Nat.le_of_ble_eq_true rfl) rfl ?_
        refine g_ic zp213 rfl rfl ?_
        refine g_is (ls' := [zR 81, zI l1, zI l2, zL 0, zJ, zL 1, zJ, zI 0, zJ, zJ, zJ]) zp213 rfl rfl (Nat.le_of_ble_eq_true rfl) rfl ?_
        refine g_ic zp213 rfl rfl ?_
        refine g_is (ls' := [zR 81, zI l1, zI l2, zL 0, zJ, zL 1, zJ, zI 0, zI 1, zJ, zJ]) zp213 rfl rfl (Nat.le_of_ble_eq_true rfl) rfl ?_
        exact g_weak (ls' := [zR 81, zI l1, zI l2, zL 0, zJ, zL 1, zJ, zI 0, zI 1, zJ, zJ]) ⟨Or.inr rfl, Or.inr rfl, Or.inr rfl, Or.inr rfl, Or.inr rfl, Or.inr rfl, Or.inr rfl, Or.inr rfl, Or.inr rfl, Or.inr rfl, Or.inr rfl, trivial⟩ h
      · replace h := h.2 c13
        refine g_ic zp213 rfl rfl ?_
        exact g_ret zp213 rfl rfl ⟨_, rfl, h⟩
theorem x213_42 {w : zWt} {d : Nat} {H : zHt} {K : Int → zHt → Prop} {l1 : Int} {l2 : Int} {l3 : Int} {l5 : Int} {l7 : Int} {l8 : Int}
    (h : (l1 < l8 → (¬ l2 = (-1) → zclI w d 178 [zR 81, zI 5] H (fun x4 H3 => K x4 H3)) ∧ (l2 = (-1) → K l7 H)) ∧ (l8 ≤ l1 → zclL w d 182 [zR 81, zI l8] H (fun x6 H5 => ((w64 (l3 * l8)) < (w64 (x6 * l5)) → (¬ l7 = l2 → zgo w (d + 1) 213 42 [zR 81, zI l1, zI l2, zL x6, zJ, zL l8, zJ, zI (w32 (l7 + 1)), zI (w32 (l8 + 1)), zJ, zJ] [] H5 (zQI K)) ∧ (l7 = l2 → K l8 H5)) ∧ ((w64 (x6 * l5)) ≤ (w64 (l3 * l8)) → zgo w (d + 1) 213 42 [zR 81, zI l1, zI l2, zL l3, zJ, zL l5, zJ, zI l7, zI (w32 (l8 + 1)), zJ, zJ] [] H5 (zQI K))))) :
    zgo w (d + 1) 213 42 [zR 81, zI l1, zI l2, zL l3, zJ, zL l5, zJ, zI l7, zI l8, zJ, zJ] [] H (zQI K) := by
  refine g_il zp213 rfl rfl rfl ?_
  refine g_il zp213 rfl rfl rfl ?_
  refine g_icmp zp213 rfl rfl zc4 (fun c1 => ?_) (fun c1 => ?_)
  · replace h := h.1 c1
    refine g_il zp213 rfl rfl rfl ?_
    refine g_ic zp213 rfl rfl ?_
    refine g_icmp zp213 rfl rfl zc1 (fun c2 => ?_) (fun c2 => ?_)
    · replace h := h.1 c2
      refine g_al zp213 rfl rfl rfl (by decide) ?_
      refine g_ic zp213 rfl rfl ?_
      refine g_callI (as := [zR 81, zI 5]) (rest := []) zp213 rfl rfl (Nat.succ_pos _) rfl rfl (Nat.le_of_ble_eq_true rfl) (Nat.le_of_ble_eq_true rfl) rfl rfl h (fun x4 H3 h => ?_)
      exact g_ret zp213 rfl rfl ⟨_, rfl, h⟩
    · replace h := h.2 c2
      refine g_il zp213 rfl rfl rfl ?_
      refine g_goto zp213 rfl ?_
      exact g_ret zp213 rfl rfl ⟨_, rfl, h⟩
  · replace h := h.2 c1
    refine g_al zp213 rfl rfl rfl (by decide) ?_
    refine g_il zp213 rfl rfl rfl ?_
    refine g_callL (as := [zR 81, zI l8]) (rest := []) zp213 rfl rfl (Nat.succ_pos _) rfl rfl (Nat.le_of_ble_eq_true rfl) (Nat.le_of_ble_eq_true rfl) rfl rfl h (fun x6 H5 h => ?_)
    refine g_ls (ls' := [zR 81, zI l1, zI l2, zL l3, zJ, zL l5, zJ, zI l7, zI l8, zL x6, zJ]) zp213 rfl rfl (Nat.le_of_ble_eq_true rfl) rfl ?_
    refine g_ll zp213 rfl rfl rfl ?_
    refine g_ll zp213 rfl rfl rfl ?_
    refine g_lar (r := w64 (x6 * l5)) zp213 rfl rfl rfl ?_
    refine g_ll zp213 rfl rfl rfl ?_
    refine g_il zp213 rfl rfl rfl ?_
    refine g_i2l zp213 rfl rfl ?_
    refine g_lar (r := w64 (l3 * l8)) zp213 rfl rfl rfl ?_
    refine g_lcmp zp213 rfl rfl rfl rfl zc4 (fun c7 => ?_) (fun c7 => ?_)
    · replace h := h.1 c7
      refine g_ll zp213 rfl rfl rfl ?_
      refine g_ls (ls' := [zR 81, zI l1, zI l2, zL x6, zJ, zL l5, zJ, zI l7, zI l8, zL x6, zJ]) zp213 rfl rfl (Nat.le_of_ble_eq_true rfl) rfl ?_
      refine g_il zp213 rfl rfl rfl ?_
      refine g_i2l zp213 rfl rfl ?_
      refine g_ls (ls' := [zR 81, zI l1, zI l2, zL x6, zJ, zL l8, zJ, zI l7, zI l8, zL x6, zJ]) zp213 rfl rfl (Nat.le_of_ble_eq_true rfl) rfl ?_
      refine g_il zp213 rfl rfl rfl ?_
      refine g_il zp213 rfl rfl rfl ?_
      refine g_icmp zp213 rfl rfl zc1 (fun c8 => ?_) (fun c8 => ?_)
      · replace h := h.1 c8
        refine g_inc (ls' := [zR 81, zI l1, zI l2, zL x6, zJ, zL l8, zJ, zI (w32 (l7 + 1)), zI l8, zL x6, zJ]) zp213 rfl rfl rfl rfl ?_
        refine g_inc (ls' := [zR 81, zI l1, zI l2, zL x6, zJ, zL l8, zJ, zI (w32 (l7 + 1)), zI (w32 (l8 + 1)), zL x6, zJ]) zp213 rfl rfl rfl rfl ?_
        refine g_goto zp213 rfl ?_
        exact g_weak (ls' := [zR 81, zI l1, zI l2, zL x6, zJ, zL l8, zJ, zI (w32 (l7 + 1)), zI (w32 (l8 + 1)), zJ, zJ]) ⟨Or.inr rfl, Or.inr rfl, Or.inr rfl, Or.inr rfl, Or.inr rfl, Or.inr rfl, Or.inr rfl, Or.inr rfl, Or.inr rfl, Or.inl rfl, Or.inr rfl, trivial⟩ h
      · replace h := h.2 c8
        refine g_il zp213 rfl rfl rfl ?_
        exact g_ret zp213 rfl rfl ⟨_, rfl, h⟩
    · replace h := h.2 c7
      refine g_goto zp213 rfl ?_
      refine g_inc (ls' := [zR 81, zI l1, zI l2, zL l3, zJ, zL l5, zJ, zI l7, zI (w32 (l8 + 1)), zL x6, zJ]) zp213 rfl rfl rfl rfl ?_
      refine g_goto zp213 rfl ?_
      exact g_weak (ls' := [zR 81, zI l1, zI l2, zL l3, zJ, zL l5, zJ, zI l7, zI (w32 (l8 + 1)), zJ, zJ]) ⟨Or.inr rfl, Or.inr rfl, Or.inr rfl, Or.inr rfl, Or.inr rfl, Or.inr rfl, Or.inr rfl, Or.inr rfl, Or.inr rfl, Or.inl rfl, Or.inr rfl, trivial⟩ h
theorem zp214 : zprog.getD 214 [] = zk214 := rfl
theorem x214_0 {w : zWt} {d : Nat} {H : zHt} {K : Int → zHt → Prop} {l1 : Int}
    (h : zclI w d 176 [zI l1] H (fun x2 H1 => (x2 = 0 → zclI w d 174 [zR 81, zI 1] H1 (fun x5 H4 => (¬ x5 = 0 → zclV w d 177 [zR 81, zI l1] H4 (fun H7 => zgo w (d + 1) 214 31 [zR 81, zJ, zL 1, zJ, zI 0] [] H7 (zQI K))) ∧ (x5 = 0 → K (-1) H4))) ∧ (¬ x2 = 0 → zclI w d 174 [zR 81, zI 0] H1 (fun x10 H9 => (¬ x10 = 0 → zclV w d 177 [zR 81, zI l1] H9 (fun H12 => zgo w (d + 1) 214 31 [zR 81, zJ, zL 1, zJ, zI 0] [] H12 (zQI K))) ∧ (x10 = 0 → K (-1) H9))))) :
    zclI w (d + 1) 214 [zR 81, zI l1] H K := by
  show zgo w (d + 1) 214 0 [zR 81, zI l1, zJ, zJ, zJ] [] H (zQI K)
  refine g_al zp214 rfl rfl rfl (by decide) ?_
  refine g_il zp214 rfl rfl rfl ?_
  refine g_callI (as := [zI l1]) (rest := [zR 81]) zp214 rfl rfl (Nat.succ_pos _) rfl rfl (Nat.le_of_ble_eq_true rfl) (Nat.le_of_ble_eq_true rfl) rfl rfl h (fun x2 H1 h => ?_)
  refine g_if zp214 rfl rfl zc0 (fun c3 => ?_) (fun c3 => ?_)
  · replace h := h.1 c3
    refine g_ic zp214 rfl rfl ?_
    refine g_callI (as := [zR 81, zI 1]) (rest := []) zp214 rfl rfl (Nat.succ_pos _) rfl rfl (Nat.le_of_ble_eq_true rfl) (Nat.le_of_ble_eq_true rfl) rfl rfl h (fun x5 H4 h => ?_)
    refine g_if zp214 rfl rfl zc1 (fun c6 => ?_) (fun c6 => ?_)
    · replace h := h.1 c6
      refine g_al zp214 rfl rfl rfl (by decide) ?_
      refine g_il zp214 rfl rfl rfl ?_
      refine g_callV (as := [zR 81, zI l1]) (rest := []) zp214 rfl rfl (Nat.succ_pos _) rfl rfl (Nat.le_of_ble_eq_true rfl) (Nat.le_of_ble_eq_true rfl) rfl rfl h (fun H7 h => ?_)
      refine g_lc zp214 rfl rfl ?_
      refine g_ls (ls' := [zR 81, zI l1, zL 1, zJ, zJ]) zp214 rfl rfl (Nat.le_of_ble_eq_true rfl) rfl ?_
      refine g_ic zp214 rfl rfl ?_
      refine g_is (ls' := [zR 81, zI l1, zL 1, zJ, zI 0]) zp214 rfl rfl (Nat.le_of_ble_eq_true rfl) rfl ?_
      exact g_weak (ls' := [zR 81, zJ, zL 1, zJ, zI 0]) ⟨Or.inr rfl, Or.inl rfl, Or.inr rfl, Or.inr rfl, Or.inr rfl, trivial⟩ h
    · replace h := h.2 c6
      refine g_ic zp214 rfl rfl ?_
      exact g_ret zp214 rfl rfl ⟨_, rfl, h⟩
  · replace h := h.2 c3
    refine g_ic zp214 rfl rfl ?_
    refine g_goto zp214 rfl ?_
    refine g_callI (as := [zR 81, zI 0]) (rest := []) zp214 rfl rfl (Nat.succ_pos _) rfl rfl (Nat.le_of_ble_eq_true rfl) (Nat.le_of_ble_eq_true rfl) rfl rfl h (fun x10 H9 h => ?_)
    refine g_if zp214 rfl rfl zc1 (fun c11 => ?_) (fun c11 => ?_)
    · replace h := h.1 c11
      refine g_al zp214 rfl rfl rfl (by decide) ?_
      refine g_il zp214 rfl rfl rfl ?_
      refine g_callV (as := [zR 81, zI l1]) (rest := []) zp214 rfl rfl (Nat.succ_pos _) rfl rfl (Nat.le_of_ble_eq_true rfl) (Nat.le_of_ble_eq_true rfl) rfl rfl h (fun H12 h => ?_)
      refine g_lc zp214 rfl rfl ?_
      refine g_ls (ls' := [zR 81, zI l1, zL 1, zJ, zJ]) zp214 rfl rfl (Nat.le_of_ble_eq_true rfl) rfl ?_
      refine g_ic zp214 rfl rfl ?_
      refine g_is (ls' := [zR 81, zI l1, zL 1, zJ, zI 0]) zp214 rfl rfl (Nat.le_of_ble_eq_true rfl) rfl ?_
      exact g_weak (ls' := [zR 81, zJ, zL 1, zJ, zI 0]) ⟨Or.inr rfl, Or.inl rfl, Or.inr rfl, Or.inr rfl, Or.inr rfl, trivial⟩ h
    · replace h := h.2 c11
      refine g_ic zp214 rfl rfl ?_
      exact g_ret zp214 rfl rfl ⟨_, rfl, h⟩
theorem x214_31 {w : zWt} {d : Nat} {H : zHt} {K : Int → zHt → Prop} {l2 : Int} {l4 : Int}
    (h : ((H 81 8) ≤ l4 → K 1 H) ∧ (l4 < (H 81 8) → (0 ≤ l4 ∧ l4 < 10) ∧ ((H 85 l4) ≤ (w64 (l2 + 1)) → zclL w d 183 [zI (H 85 l4), zI (H 86 l4)] H (fun x5 H4 => zgo w (d + 1) 214 31 [zR 81, zJ, zL (w64 (l2 * x5)), zJ, zI (w32 (l4 + 1))] [] H4 (zQI K))) ∧ ((w64 (l2 + 1)) < (H 85 l4) → K 0 H))) :
    zgo w (d + 1) 214 31 [zR 81, zJ, zL l2, zJ, zI l4] [] H (zQI K) := by
  refine g_il zp214 rfl rfl rfl ?_
  refine g_al zp214 rfl rfl rfl (by decide) ?_
  refine g_get (v := zI (H 81 8)) zp214 rfl rfl rfl ⟨rfl, by decide, (by decide)⟩ rfl ?_
  refine g_icmp zp214 rfl rfl zc3 (fun c1 => ?_) (fun c1 => ?_)
  · replace h := h.1 c1
    refine g_ic zp214 rfl rfl ?_
    exact g_ret zp214 rfl rfl ⟨_, rfl, h⟩
  · replace h := h.2 c1
    refine g_al zp214 rfl rfl rfl (by decide) ?_
    refine g_get (v := zR 85) zp214 rfl rfl rfl ⟨rfl, by decide, (by decide)⟩ rfl ?_
    refine g_il zp214 rfl rfl rfl ?_
    obtain ⟨c2, h⟩ := h
    refine g_ald (v := zI (H 85 l4)) zp214 rfl rfl rfl rfl c2 rfl ?_
    refine g_i2l zp214 rfl rfl ?_
    refine g_ll zp214 rfl rfl rfl ?_
    refine g_lc zp214 rfl rfl ?_
    refine g_lar (r := w64 (l2 + 1)) zp214 rfl rfl rfl ?_
    refine g_lcmp zp214 rfl rfl rfl rfl zc5 (fun c3 => ?_) (fun c3 => ?_)
    · replace h := h.1 c3
      refine g_ll zp214 rfl rfl rfl ?_
      refine g_al zp214 rfl rfl rfl (by decide) ?_
      refine g_get (v := zR 85) zp214 rfl rfl rfl ⟨rfl, by decide, (by decide)⟩ rfl ?_
      refine g_il zp214 rfl rfl rfl ?_
      refine g_ald (v := zI (H 85 l4)) zp214 rfl rfl rfl rfl c2 rfl ?_
      refine g_al zp214 rfl rfl rfl (by decide) ?_
      refine g_get (v := zR 86) zp214 rfl rfl rfl ⟨rfl, by decide, (by decide)⟩ rfl ?_
      refine g_il zp214 rfl rfl rfl ?_
      refine g_ald (v := zI (H 86 l4)) zp214 rfl rfl rfl rfl c2 rfl ?_
      refine g_callL (as := [zI (H 85 l4), zI (H 86 l4)]) (rest := [zL l2]) zp214 rfl rfl (Nat.succ_pos _) rfl rfl (Nat.le_of_ble_eq_true rfl) (Nat.le_of_ble_eq_true rfl) rfl rfl h (fun x5 H4 h => ?_)
      refine g_lar (r := w64 (l2 * x5)) zp214 rfl rfl rfl ?_
      refine g_ls (ls' := [zR 81, zJ, zL (w64 (l2 * x5)), zJ, zI l4]) zp214 rfl rfl (Nat.le_of_ble_eq_true rfl) rfl ?_
      refine g_inc (ls' := [zR 81, zJ, zL (w64 (l2 * x5)), zJ, zI (w32 (l4 + 1))]) zp214 rfl rfl rfl rfl ?_
      refine g_goto zp214 rfl ?_
      exact g_weak (ls' := [zR 81, zJ, zL (w64 (l2 * x5)), zJ, zI (w32 (l4 + 1))]) ⟨Or.inr rfl, Or.inr rfl, Or.inr rfl, Or.inr rfl, Or.inr rfl, trivial⟩ h
    · replace h := h.2 c3
      refine g_ic zp214 rfl rfl ?_
      exact g_ret zp214 rfl rfl ⟨_, rfl, h⟩
theorem zp215 : zprog.getD 215 [] = zk215 := rfl
theorem x215_0 {w : zWt} {d : Nat} {H : zHt} {K : Int → zHt → Prop} {l1 : Int} {l2 : Int}
    (h : zclI w d 176 [zI l1] H (fun x2 H1 => (x2 = 0 → zclI w d 174 [zR 81, zI 1] H1 (fun x5 H4 => (¬ x5 = 0 → zgo w (d + 1) 215 31 [zR 81, zJ, zI l2, zI l1, zI 0] [] H4 (zQI K)) ∧ (x5 = 0 → K (-1) H4))) ∧ (¬ x2 = 0 → (l2 < (-1) → zclI w d 174 [zR 81, zI 1] H1 (fun x9 H8 => (¬ x9 = 0 → zgo w (d + 1) 215 31 [zR 81, zJ, zI l2, zI l1, zI 0] [] H8 (zQI K)) ∧ (x9 = 0 → K (-1) H8))) ∧ ((-1) ≤ l2 → zclI w d 174 [zR 81, zI 0] H1 (fun x12 H11 => (¬ x12 = 0 → zgo w (d + 1) 215 31 [zR 81, zJ, zI l2, zI l1, zI 0] [] H11 (zQI K)) ∧ (x12 = 0 → K (-1) H11)))))) :
    zclI w (d + 1) 215 [zR 81, zI l1, zI l2] H K := by
  show zgo w (d + 1) 215 0 [zR 81, zI l1, zI l2, zJ, zJ] [] H (zQI K)
  refine g_al zp215 rfl rfl rfl (by decide) ?_
  refine g_il zp215 rfl rfl rfl ?_
  refine g_callI (as := [zI l1]) (rest := [zR 81]) zp215 rfl rfl (Nat.succ_pos _) rfl rfl (Nat.le_of_ble_eq_true rfl) (Nat.le_of_ble_eq_true rfl) rfl rfl h (fun x2 H1 h => ?_)
  refine g_if zp215 rfl rfl zc0 (fun c3 => ?_) (fun c3 => ?_)
  · replace h := h.1 c3
    refine g_ic zp215 rfl rfl ?_
    refine g_callI (as := [zR 81, zI 1]) (rest := []) zp215 rfl rfl (Nat.succ_pos _) rfl rfl (Nat.le_of_ble_eq_true rfl) (Nat.le_of_ble_eq_true rfl) rfl rfl h (fun x5 H4 h => ?_)
    refine g_if zp215 rfl rfl zc1 (fun c6 => ?_) (fun c6 => ?_)
    · replace h := h.1 c6
      refine g_il zp215 rfl rfl rfl ?_
      refine g_is (ls' := [zR 81, zI l1, zI l2, zI l1, zJ]) zp215 rfl rfl (Nat.le_of_ble_eq_true rfl) rfl ?_
      refine g_ic zp215 rfl rfl ?_
      refine g_is (ls' := [zR 81, zI l1, zI l2, zI l1, zI 0]) zp215 rfl rfl (Nat.le_of_ble_eq_true rfl) rfl ?_
      exact g_weak (ls' := [zR 81, zJ, zI l2, zI l1, zI 0]) ⟨Or.inr rfl, Or.inl rfl, Or.inr rfl, Or.inr rfl, Or.inr rfl, trivial⟩ h
    · replace h := h.2 c6
      refine g_ic zp215 rfl rfl ?_
      exact g_ret zp215 rfl rfl ⟨_, rfl, h⟩
  · replace h := h.2 c3
    refine g_il zp215 rfl rfl rfl ?_
    refine g_ic zp215 rfl rfl ?_
    refine g_icmp zp215 rfl rfl zc2 (fun c7 => ?_) (fun c7 => ?_)
    · replace h := h.1 c7
      refine g_ic zp215 rfl rfl ?_
      refine g_callI (as := [zR 81, zI 1]) (rest := []) zp215 rfl rfl (Nat.succ_pos _) rfl rfl (Nat.le_of_ble_eq_true rfl) (Nat.le_of_ble_eq_true rfl) rfl rfl h (fun x9 H8 h => ?_)
      refine g_if zp215 rfl rfl zc1 (fun c10 => ?_) (fun c10 => ?_)
      · replace h := h.1 c10
        refine g_il zp215 rfl rfl rfl ?_
        refine g_is (ls' := [zR 81, zI l1, zI l2, zI l1, zJ]) zp215 rfl rfl (Nat.le_of_ble_eq_true rfl) rfl ?_
        refine g_ic zp215 rfl rfl ?_
        refine g_is (ls' := [zR 81, zI l1, zI l2, zI l1, zI 0]) zp215 rfl rfl (Nat.le_of_ble_eq_true rfl) rfl ?_
        exact g_weak (ls' := [zR 81, zJ, zI l2, zI l1, zI 0]) ⟨Or.inr rfl, Or.inl rfl, Or.inr rfl, Or.inr rfl, Or.inr rfl, trivial⟩ h
      · replace h := h.2 c10
        refine g_ic zp215 rfl rfl ?_
        exact g_ret zp215 rfl rfl ⟨_, rfl, h⟩
    · replace h := h.2 c7
      refine g_ic zp215 rfl rfl ?_
      refine g_goto zp215 rfl ?_
      refine g_callI (as := [zR 81, zI 0]) (rest := []) zp215 rfl rfl (Nat.succ_pos _) rfl rfl (Nat.le_of_ble_eq_true rfl) (Nat.le_of_ble_eq_true rfl) rfl rfl h (fun x12 H11 h => ?_)
      refine g_if zp215 rfl rfl zc1 (fun c13 => ?_) (fun c13 => ?_)
      · replace h := h.1 c13
        refine g_il zp215 rfl rfl rfl ?_
        refine g_is (ls' := [zR 81, zI l1, zI l2, zI l1, zJ]) zp215 rfl rfl (Nat.le_of_ble_eq_true rfl) rfl ?_
        refine g_ic zp215 rfl rfl ?_
        refine g_is (ls' := [zR 81, zI l1, zI l2, zI l1, zI 0]) zp215 rfl rfl (Nat.le_of_ble_eq_true rfl) rfl ?_
        exact g_weak (ls' := [zR 81, zJ, zI l2, zI l1, zI 0]) ⟨Or.inr rfl, Or.inl rfl, Or.inr rfl, Or.inr rfl, Or.inr rfl, trivial⟩ h
      · replace h := h.2 c13
        refine g_ic zp215 rfl rfl ?_
        exact g_ret zp215 rfl rfl ⟨_, rfl, h⟩
theorem x215_31 {w : zWt} {d : Nat} {H : zHt} {K : Int → zHt → Prop} {l2 : Int} {l3 : Int} {l4 : Int}
    (h : (l4 = l2 → (¬ l2 = (-1) → (¬ l4 = l2 → zclI w d 178 [zR 81, zI 5] H (fun x5 H4 => K x5 H4)) ∧ (l4 = l2 → K l3 H)) ∧ (l2 = (-1) → K (w32 (l4 + 1)) H)) ∧ (¬ l4 = l2 → (l3 ≤ 2 → (¬ l2 = (-1) → (¬ l4 = l2 → zclI w d 178 [zR 81, zI 5] H (fun x10 H9 => K x10 H9)) ∧ (l4 = l2 → K l3 H)) ∧ (l2 = (-1) → K (w32 (l4 + 1)) H)) ∧ (2 < l3 → zclI w d 193 [zR 81, zI l3] H (fun x12 H11 => zgo w (d + 1) 215 31 [zR 81, zJ, zI l2, zI x12, zI (w32 (l4 + 1))] [] H11 (zQI K))))) :
    zgo w (d + 1) 215 31 [zR 81, zJ, zI l2, zI l3, zI l4] [] H (zQI K) := by
  refine g_il zp215 rfl rfl rfl ?_
  refine g_il zp215 rfl rfl rfl ?_
  refine g_icmp zp215 rfl rfl zc0 (fun c1 => ?_) (fun c1 => ?_)
  · replace h := h.1 c1
    refine g_il zp215 rfl rfl rfl ?_
    refine g_ic zp215 rfl rfl ?_
    refine g_icmp zp215 rfl rfl zc1 (fun c2 => ?_) (fun c2 => ?_)
    · replace h := h.1 c2
      refine g_il zp215 rfl rfl rfl ?_
      refine g_il zp215 rfl rfl rfl ?_
      refine g_icmp zp215 rfl rfl zc1 (fun c3 => ?_) (fun c3 => ?_)
      · replace h := h.1 c3
        refine g_al zp215 rfl rfl rfl (by decide) ?_
        refine g_ic zp215 rfl rfl ?_
        refine g_callI (as := [zR 81, zI 5]) (rest := []) zp215 rfl rfl (Nat.succ_pos _) rfl rfl (Nat.le_of_ble_eq_true rfl) (Nat.le_of_ble_eq_true rfl) rfl rfl h (fun x5 H4 h => ?_)
        exact g_ret zp215 rfl rfl ⟨_, rfl, h⟩
      · replace h := h.2 c3
        refine g_il zp215 rfl rfl rfl ?_
        refine g_goto zp215 rfl ?_
        exact g_ret zp215 rfl rfl ⟨_, rfl, h⟩
    · replace h := h.2 c2
      refine g_il zp215 rfl rfl rfl ?_
      refine g_ic zp215 rfl rfl ?_
      refine g_ar (r := w32 (l4 + 1)) zp215 rfl rfl rfl ?_
      refine g_goto zp215 rfl ?_
      exact g_ret zp215 rfl rfl ⟨_, rfl, h⟩
  · replace h := h.2 c1
    refine g_il zp215 rfl rfl rfl ?_
    refine g_ic zp215 rfl rfl ?_
    refine g_icmp zp215 rfl rfl zc5 (fun c6 => ?_) (fun c6 => ?_)
    · replace h := h.1 c6
      refine g_il zp215 rfl rfl rfl ?_
      refine g_ic zp215 rfl rfl ?_
      refine g_icmp zp215 rfl rfl zc1 (fun c7 => ?_) (fun c7 => ?_)
      · replace h := h.1 c7
        refine g_il zp215 rfl rfl rfl ?_
        refine g_il zp215 rfl rfl rfl ?_
        refine g_icmp zp215 rfl rfl zc1 (fun c8 => ?_) (fun c8 => ?_)
        · replace h := h.1 c8
          refine g_al zp215 rfl rfl rfl (by decide) ?_
          refine g_ic zp215 rfl rfl ?_
          refine g_callI (as := [zR 81, zI 5]) (rest := []) zp215 rfl rfl (Nat.succ_pos _) rfl rfl (Nat.le_of_ble_eq_true rfl) (Nat.le_of_ble_eq_true rfl) rfl rfl h (fun x10 H9 h => ?_)
          exact g_ret zp215 rfl rfl ⟨_, rfl, h⟩
        · replace h := h.2 c8
          refine g_il zp215 rfl rfl rfl ?_
          refine g_goto zp215 rfl ?_
          exact g_ret zp215 rfl rfl ⟨_, rfl, h⟩
      · replace h := h.2 c7
        refine g_il zp215 rfl rfl rfl ?_
        refine g_ic zp215 rfl rfl ?_
        refine g_ar (r := w32 (l4 + 1)) zp215 rfl rfl rfl ?_
        refine g_goto zp215 rfl ?_
        exact g_ret zp215 rfl rfl ⟨_, rfl, h⟩
    · replace h := h.2 c6
      refine g_al zp215 rfl rfl rfl (by decide) ?_
      refine g_il zp215 rfl rfl rfl ?_
      refine g_callI (as := [zR 81, zI l3]) (rest := []) zp215 rfl rfl (Nat.succ_pos _) rfl rfl (Nat.le_of_ble_eq_true rfl) (Nat.le_of_ble_eq_true rfl) rfl rfl h (fun x12 H11 h => ?_)
      refine g_is (ls' := [zR 81, zJ, zI l2, zI x12, zI l4]) zp215 rfl rfl (Nat.le_of_ble_eq_true rfl) rfl ?_
      refine g_inc (ls' := [zR 81, zJ, zI l2, zI x12, zI (w32 (l4 + 1))]) zp215 rfl rfl rfl rfl ?_
      refine g_goto zp215 rfl ?_
      exact g_weak (ls' := [zR 81, zJ, zI l2, zI x12, zI (w32 (l4 + 1))]) ⟨Or.inr rfl, Or.inr rfl, Or.inr rfl, Or.inr rfl, Or.inr rfl, trivial⟩ h
theorem zp216 : zprog.getD 216 [] = zk216 := rfl
theorem x216_0 {w : zWt} {d : Nat} {H : zHt} {K : Int → zHt → Prop} {l1 : Int} {l2 : Int} {l3 : Int}
    (h : zclI w d 176 [zI l1] H (fun x2 H1 => (x2 = 0 → zgo w (d + 1) 216 23 [zR 81, zI l1, zI l2, zI l3, zJ, zJ, zJ, zJ] [zI 1, zR 81] H1 (zQL K)) ∧ (¬ x2 = 0 → zclI w d 173 [zL l3, zL 0, zL 1] H1 (fun x5 H4 => (x5 = 0 → zgo w (d + 1) 216 23 [zR 81, zI l1, zI l2, zI l3, zJ, zJ, zJ, zJ] [zI 1, zR 81] H4 (zQL K)) ∧ (¬ x5 = 0 → zgo w (d + 1) 216 23 [zR 81, zI l1, zI l2, zI l3, zJ, zJ, zJ, zJ] [zI 0, zR 81] H4 (zQL K)))))) :
    zclL w (d + 1) 216 [zR 81, zI l1, zI l2, zI l3] H K := by
  show zgo w (d + 1) 216 0 [zR 81, zI l1, zI l2, zI l3, zJ, zJ, zJ, zJ] [] H (zQL K)
  refine g_al zp216 rfl rfl rfl (by decide) ?_
  refine g_il zp216 rfl rfl rfl ?_
  refine g_callI (as := [zI l1]) (rest := [zR 81]) zp216 rfl rfl (Nat.succ_pos _) rfl rfl (Nat.le_of_ble_eq_true rfl) (Nat.le_of_ble_eq_true rfl) rfl rfl h (fun x2 H1 h => ?_)
  refine g_if zp216 rfl rfl zc0 (fun c3 => ?_) (fun c3 => ?_)
  · replace h := h.1 c3
    refine g_ic zp216 rfl rfl ?_
    exact g_weak (ls' := [zR 81, zI l1, zI l2, zI l3, zJ, zJ, zJ, zJ]) ⟨Or.inr rfl, Or.inr rfl, Or.inr rfl, Or.inr rfl, Or.inr rfl, Or.inr rfl, Or.inr rfl, Or.inr rfl, trivial⟩ h
  · replace h := h.2 c3
    refine g_il zp216 rfl rfl rfl ?_
    refine g_i2l zp216 rfl rfl ?_
    refine g_lc zp216 rfl rfl ?_
    refine g_lc zp216 rfl rfl ?_
    refine g_callI (as := [zL l3, zL 0, zL 1]) (rest := [zR 81]) zp216 rfl rfl (Nat.succ_pos _) rfl rfl (Nat.le_of_ble_eq_true rfl) (Nat.le_of_ble_eq_true rfl) rfl rfl h (fun x5 H4 h => ?_)
    refine g_if zp216 rfl rfl zc0 (fun c6 => ?_) (fun c6 => ?_)
    · replace h := h.1 c6
      refine g_ic zp216 rfl rfl ?_
      exact g_weak (ls' := [zR 81, zI l1, zI l2, zI l3, zJ, zJ, zJ, zJ]) ⟨Or.inr rfl, Or.inr rfl, Or.inr rfl, Or.inr rfl, Or.inr rfl, Or.inr rfl, Or.inr rfl, Or.inr rfl, trivial⟩ h
    · replace h := h.2 c6
      refine g_ic zp216 rfl rfl ?_
      refine g_goto zp216 rfl ?_
      exact g_weak (ls' := [zR 81, zI l1, zI l2, zI l3, zJ, zJ, zJ, zJ]) ⟨Or.inr rfl, Or.inr rfl, Or.inr rfl, Or.inr rfl, Or.inr rfl, Or.inr rfl, Or.inr rfl, Or.inr rfl, trivial⟩ h
theorem x216_23 {w : zWt} {d : Nat} {H : zHt} {K : Int → zHt → Prop} {l1 : Int} {l2 : Int} {l3 : Int} {s1 : Int}
    (h : zclI w d 174 [zR 81, zI s1] H (fun x2 H1 => (¬ x2 = 0 → zclL w d 182 [zR 81, zI l1] H1 (fun x5 H4 => zclI w d 193 [zR 81, zI l1] H4 (fun x7 H6 => (l2 = 0 → zclL w d 198 [zL x5, zL x7, zI l3] H6 (fun x10 H9 => K x10 H9)) ∧ (¬ l2 = 0 → zclL w d 198 [zL (w64 (l1 * x7)), zL x5, zI l3] H6 (fun x12 H11 => K x12 H11))))) ∧ (x2 = 0 → K (-1) H1))) :
    zgo w (d + 1) 216 23 [zR 81, zI l1, zI l2, zI l3, zJ, zJ, zJ, zJ] [zI s1, zR 81] H (zQL K) := by
  refine g_callI (as := [zR 81, zI s1]) (rest := []) zp216 rfl rfl (Nat.succ_pos _) rfl rfl (Nat.le_of_ble_eq_true rfl) (Nat.le_of_ble_eq_true rfl) rfl rfl h (fun x2 H1 h => ?_)
  refine g_if zp216 rfl rfl zc1 (fun c3 => ?_) (fun c3 => ?_)
  · replace h := h.1 c3
    refine g_al zp216 rfl rfl rfl (by decide) ?_
    refine g_il zp216 rfl rfl rfl ?_
    refine g_callL (as := [zR 81, zI l1]) (rest := []) zp216 rfl rfl (Nat.succ_pos _) rfl rfl (Nat.le_of_ble_eq_true rfl) (Nat.le_of_ble_eq_true rfl) rfl rfl h (fun x5 H4 h => ?_)
    refine g_ls (ls' := [zR 81, zI l1, zI l2, zI l3, zL x5, zJ, zJ, zJ]) zp216 rfl rfl (Nat.le_of_ble_eq_true rfl) rfl ?_
    refine g_al zp216 rfl rfl rfl (by decide) ?_
    refine g_il zp216 rfl rfl rfl ?_
    refine g_callI (as := [zR 81, zI l1]) (rest := []) zp216 rfl rfl (Nat.succ_pos _) rfl rfl (Nat.le_of_ble_eq_true rfl) (Nat.le_of_ble_eq_true rfl) rfl rfl h (fun x7 H6 h => ?_)
    refine g_i2l zp216 rfl rfl ?_
    refine g_ls (ls' := [zR 81, zI l1, zI l2, zI l3, zL x5, zJ, zL x7, zJ]) zp216 rfl rfl (Nat.le_of_ble_eq_true rfl) rfl ?_
    refine g_il zp216 rfl rfl rfl ?_
    refine g_if zp216 rfl rfl zc0 (fun c8 => ?_) (fun c8 => ?_)
    · replace h := h.1 c8
      refine g_ll zp216 rfl rfl rfl ?_
      refine g_ll zp216 rfl rfl rfl ?_
      refine g_il zp216 rfl rfl rfl ?_
      refine g_callL (as := [zL x5, zL x7, zI l3]) (rest := []) zp216 rfl rfl (Nat.succ_pos _) rfl rfl (Nat.le_of_ble_eq_true rfl) (Nat.le_of_ble_eq_true rfl) rfl rfl h (fun x10 H9 h => ?_)
      exact g_ret zp216 rfl rfl ⟨_, rfl, h⟩
    · replace h := h.2 c8
      refine g_il zp216 rfl rfl rfl ?_
      refine g_i2l zp216 rfl rfl ?_
      refine g_ll zp216 rfl rfl rfl ?_
      refine g_lar (r := w64 (l1 * x7)) zp216 rfl rfl rfl ?_
      refine g_ll zp216 rfl rfl rfl ?_
      refine g_il zp216 rfl rfl rfl ?_
      refine g_callL (as := [zL (w64 (l1 * x7)), zL x5, zI l3]) (rest := []) zp216 rfl rfl (Nat.succ_pos _) rfl rfl (Nat.le_of_ble_eq_true rfl) (Nat.le_of_ble_eq_true rfl) rfl rfl h (fun x12 H11 h => ?_)
      refine g_goto zp216 rfl ?_
      exact g_ret zp216 rfl rfl ⟨_, rfl, h⟩
  · replace h := h.2 c3
    refine g_lc zp216 rfl rfl ?_
    exact g_ret zp216 rfl rfl ⟨_, rfl, h⟩
theorem zp217 : zprog.getD 217 [] = zk217 := rfl
theorem x217_0 {w : zWt} {d : Nat} {H : zHt} {K : Int → zHt → Prop} {l1 : Int} {l2 : Int}
    (h : zclI w d 173 [zL l1, zL 0, zL 2000] H (fun x2 H1 => (x2 = 0 → zclI w d 174 [zR 81, zI 1] H1 (fun x5 H4 => (¬ x5 = 0 → zclV w d 205 [zR 81, zI l2] H4 (fun H7 => zclI w d 218 [zR 81, zI l1, zI l2] H7 (fun x10 H9 => K x10 H9))) ∧ (x5 = 0 → K (-1) H4))) ∧ (¬ x2 = 0 → zclI w d 173 [zL l2, zL 1, zL 500] H1 (fun x12 H11 => (x12 = 0 → zclI w d 174 [zR 81, zI 1] H11 (fun x15 H14 => (¬ x15 = 0 → zclV w d 205 [zR 81, zI l2] H14 (fun H17 => zclI w d 218 [zR 81, zI l1, zI l2] H17 (fun x20 H19 => K x20 H19))) ∧ (x15 = 0 → K (-1) H14))) ∧ (¬ x12 = 0 → zclI w d 174 [zR 81, zI 0] H11 (fun x22 H21 => (¬ x22 = 0 → zclV w d 205 [zR 81, zI l2] H21 (fun H24 => zclI w d 218 [zR 81, zI l1, zI l2] H24 (fun x27 H26 => K x27 H26))) ∧ (x22 = 0 → K (-1) H21))))))) :
    zclI w (d + 1) 217 [zR 81, zI l1, zI l2] H K := by
  show zgo w (d + 1) 217 0 [zR 81, zI l1, zI l2] [] H (zQI K)
  refine g_al zp217 rfl rfl rfl (by decide) ?_
  refine g_il zp217 rfl rfl rfl ?_
  refine g_i2l zp217 rfl rfl ?_
  refine g_lc zp217 rfl rfl ?_
  refine g_lc zp217 rfl rfl ?_
  refine g_callI (as := [zL l1, zL 0, zL 2000]) (rest := [zR 81]) zp217 rfl rfl (Nat.succ_pos _) rfl rfl (Nat.le_of_ble_eq_true rfl) (Nat.le_of_ble_eq_true rfl) rfl rfl h (fun x2 H1 h => ?_)
  refine g_if zp217 rfl rfl zc0 (fun c3 => ?_) (fun c3 => ?_)
  · replace h := h.1 c3
    refine g_ic zp217 rfl rfl ?_
    refine g_callI (as := [zR 81, zI 1]) (rest := []) zp217 rfl rfl (Nat.succ_pos _) rfl rfl (Nat.le_of_ble_eq_true rfl) (Nat.le_of_ble_eq_true rfl) rfl rfl h (fun x5 H4 h => ?_)
    refine g_if zp217 rfl rfl zc1 (fun c6 => ?_) (fun c6 => ?_)
    · replace h := h.1 c6
      refine g_al zp217 rfl rfl rfl (by decide) ?_
      refine g_il zp217 rfl rfl rfl ?_
      refine g_callV (as := [zR 81, zI l2]) (rest := []) zp217 rfl rfl (Nat.succ_pos _) rfl rfl (Nat.le_of_ble_eq_true rfl) (Nat.le_of_ble_eq_true rfl) rfl rfl h (fun H7 h => ?_)
      refine g_al zp217 rfl rfl rfl (by decide) ?_
      refine g_il zp217 rfl rfl rfl ?_
      refine g_il zp217 rfl rfl rfl ?_
      refine g_callI (as := [zR 81, zI l1, zI l2]) (rest := []) zp217 rfl rfl (Nat.succ_pos _) rfl rfl (Nat.le_of_ble_eq_true rfl) (Nat.le_of_ble_eq_true rfl) rfl rfl h (fun x10 H9 h => ?_)
      exact g_ret zp217 rfl rfl ⟨_, rfl, h⟩
    · replace h := h.2 c6
      refine g_ic zp217 rfl rfl ?_
      exact g_ret zp217 rfl rfl ⟨_, rfl, h⟩
  · replace h := h.2 c3
    refine g_il zp217 rfl rfl rfl ?_
    refine g_i2l zp217 rfl rfl ?_
    refine g_lc zp217 rfl rfl ?_
    refine g_lc zp217 rfl rfl ?_
    refine g_callI (as := [zL l2, zL 1, zL 500]) (rest := [zR 81]) zp217 rfl rfl (Nat.succ_pos _) rfl rfl (Nat.le_of_ble_eq_true rfl) (Nat.le_of_ble_eq_true rfl) rfl rfl h (fun x12 H11 h => ?_)
    refine g_if zp217 rfl rfl zc0 (fun c13 => ?_) (fun c13 => ?_)
    · replace h := h.1 c13
      refine g_ic zp217 rfl rfl ?_
      refine g_callI (as := [zR 81, zI 1]) (rest := []) zp217 rfl rfl (Nat.succ_pos _) rfl rfl (Nat.le_of_ble_eq_true rfl) (Nat.le_of_ble_eq_true rfl) rfl rfl h (fun x15 H14 h => ?_)
      refine g_if zp217 rfl rfl zc1 (fun c16 => ?_) (fun c16 => ?_)
      · replace h := h.1 c16
        refine g_al zp217 rfl rfl rfl (by decide) ?_
        refine g_il zp217 rfl rfl rfl ?_
        refine g_callV (as := [zR 81, zI l2]) (rest := []) zp217 rfl rfl (Nat.succ_pos _) rfl rfl (Nat.le_of_ble_eq_true rfl) (Nat.le_of_ble_eq_true rfl) rfl rfl h (fun H17 h => ?_)
        refine g_al zp217 rfl rfl rfl (by decide) ?_
        refine g_il zp217 rfl rfl rfl ?_
        refine g_il zp217 rfl rfl rfl ?_
        refine g_callI (as := [zR 81, zI l1, zI l2]) (rest := []) zp217 rfl rfl (Nat.succ_pos _) rfl rfl (Nat.le_of_ble_eq_true rfl) (Nat.le_of_ble_eq_true rfl) rfl rfl h (fun x20 H19 h => ?_)
        exact g_ret zp217 rfl rfl ⟨_, rfl, h⟩
      · replace h := h.2 c16
        refine g_ic zp217 rfl rfl ?_
        exact g_ret zp217 rfl rfl ⟨_, rfl, h⟩
    · replace h := h.2 c13
      refine g_ic zp217 rfl rfl ?_
      refine g_goto zp217 rfl ?_
      refine g_callI (as := [zR 81, zI 0]) (rest := []) zp217 rfl rfl (Nat.succ_pos _) rfl rfl (Nat.le_of_ble_eq_true rfl) (Nat.le_of_ble_eq_true rfl) rfl rfl h (fun x22 H21 h => ?_)
      refine g_if zp217 rfl rfl zc1 (fun c23 => ?_) (fun c23 => ?_)
      · replace h := h.1 c23
        refine g_al zp217 rfl rfl rfl (by decide) ?_
        refine g_il zp217 rfl rfl rfl ?_
        refine g_callV (as := [zR 81, zI l2]) (rest := []) zp217 rfl rfl (Nat.succ_pos _) rfl rfl (Nat.le_of_ble_eq_true rfl) (Nat.le_of_ble_eq_true rfl) rfl rfl h (fun H24 h => ?_)
        refine g_al zp217 rfl rfl rfl (by decide) ?_
        refine g_il zp217 rfl rfl rfl ?_
        refine g_il zp217 rfl rfl rfl ?_
        refine g_callI (as := [zR 81, zI l1, zI l2]) (rest := []) zp217 rfl rfl (Nat.succ_pos _) rfl rfl (Nat.le_of_ble_eq_true rfl) (Nat.le_of_ble_eq_true rfl) rfl rfl h (fun x27 H26 h => ?_)
        exact g_ret zp217 rfl rfl ⟨_, rfl, h⟩
      · replace h := h.2 c23
        refine g_ic zp217 rfl rfl ?_
        exact g_ret zp217 rfl rfl ⟨_, rfl, h⟩
theorem zp218 : zprog.getD 218 [] = zk218 := rfl
theorem x218_0 {w : zWt} {d : Nat} {H : zHt} {K : Int → zHt → Prop} {l1 : Int} {l2 : Int}
    (h : (0 ≤ l1 ∧ l1 < 2001) ∧ zgo w (d + 1) 218 12 [zR 81, zI l1, zI l2, zI 0, zI 1, zJ] [] (zup H 93 l1 1) (zQI K)) :
    zclI w (d + 1) 218 [zR 81, zI l1, zI l2] H K := by
  show zgo w (d + 1) 218 0 [zR 81, zI l1, zI l2, zJ, zJ, zJ] [] H (zQI K)
  refine g_al zp218 rfl rfl rfl (by decide) ?_
  refine g_get (v := zR 93) zp218 rfl rfl rfl ⟨rfl, by decide, (by decide)⟩ rfl ?_
  refine g_il zp218 rfl rfl rfl ?_
  refine g_ic zp218 rfl rfl ?_
  obtain ⟨c1, h⟩ := h
  refine g_zast zp218 rfl rfl rfl (by decide) rfl c1 (by decide) ?_
  refine g_ic zp218 rfl rfl ?_
  refine g_is (ls' := [zR 81, zI l1, zI l2, zI 0, zJ, zJ]) zp218 rfl rfl (Nat.le_of_ble_eq_true rfl) rfl ?_
  refine g_ic zp218 rfl rfl ?_
  refine g_is (ls' := [zR 81, zI l1, zI l2, zI 0, zI 1, zJ]) zp218 rfl rfl (Nat.le_of_ble_eq_true rfl) rfl ?_
  exact g_weak (ls' := [zR 81, zI l1, zI l2, zI 0, zI 1, zJ]) ⟨Or.inr rfl, Or.inr rfl, Or.inr rfl, Or.inr rfl, Or.inr rfl, Or.inr rfl, trivial⟩ h
theorem x218_12 {w : zWt} {d : Nat} {H : zHt} {K : Int → zHt → Prop} {l1 : Int} {l2 : Int} {l3 : Int} {l4 : Int}
    (h : (l2 < l4 → (0 ≤ l1 ∧ l1 < 2001) ∧ K l3 (zup H 93 l1 0)) ∧ (l4 ≤ l2 → (0 ≤ l4 ∧ l4 < 2001) ∧ (¬ (H 90 l4) = l1 → zgo w (d + 1) 218 12 [zR 81, zI l1, zI l2, zI l3, zI (w32 (l4 + 1)), zJ] [] H (zQI K)) ∧ ((H 90 l4) = l1 → (¬ l4 = l1 → ((H 93 l4) = 0 → zclI w d 218 [zR 81, zI l4, zI l2] H (fun x8 H7 => ((w32 (1 + x8)) ≤ l3 → zgo w (d + 1) 218 12 [zR 81, zI l1, zI l2, zI l3, zI (w32 (l4 + 1)), zJ] [] H7 (zQI K)) ∧ (l3 < (w32 (1 + x8)) → zgo w (d + 1) 218 12 [zR 81, zI l1, zI l2, zI (w32 (1 + x8)), zI (w32 (l4 + 1)), zJ] [] H7 (zQI K)))) ∧ (¬ (H 93 l4) = 0 → ((w32 (1 + 0)) ≤ l3 → zgo w (d + 1) 218 12 [zR 81, zI l1, zI l2, zI l3, zI (w32 (l4 + 1)), zJ] [] H (zQI K)) ∧ (l3 < (w32 (1 + 0)) → zgo w (d + 1) 218 12 [zR 81, zI l1, zI l2, zI (w32 (1 + 0)), zI (w32 (l4 + 1)), zJ] [] H (zQI K)))) ∧ (l4 = l1 → zgo w (d + 1) 218 12 [zR 81, zI l1, zI l2, zI l3, zI (w32 (l4 + 1)), zJ] [] H (zQI K))))) :
    zgo w (d + 1) 218 12 [zR 81, zI l1, zI l2, zI l3, zI l4, zJ] [] H (zQI K) := by
  refine g_il zp218 rfl rfl rfl ?_
  refine g_il zp218 rfl rfl rfl ?_
  refine g_icmp zp218 rfl rfl zc4 (fun c1 => ?_) (fun c1 => ?_)
  · replace h := h.1 c1
    refine g_al zp218 rfl rfl rfl (by decide) ?_
    refine g_get (v := zR 93) zp218 rfl rfl rfl ⟨rfl, by decide, (by decide)⟩ rfl ?_
    refine g_il zp218 rfl rfl rfl ?_
    refine g_ic zp218 rfl rfl ?_
    obtain ⟨c2, h⟩ := h
    refine g_zast zp218 rfl rfl rfl (by decide) rfl c2 (by decide) ?_
    refine g_il zp218 rfl rfl rfl ?_
    exact g_ret zp218 rfl rfl ⟨_, rfl, h⟩
  · replace h := h.2 c1
    refine g_al zp218 rfl rfl rfl (by decide) ?_
    refine g_get (v := zR 90) zp218 rfl rfl rfl ⟨rfl, by decide, (by decide)⟩ rfl ?_
    refine g_il zp218 rfl rfl rfl ?_
    obtain ⟨c3, h⟩ := h
    refine g_ald (v := zL (H 90 l4)) zp218 rfl rfl rfl rfl c3 rfl ?_
    refine g_il zp218 rfl rfl rfl ?_
    refine g_i2l zp218 rfl rfl ?_
    refine g_lcmp zp218 rfl rfl rfl rfl zc1 (fun c4 => ?_) (fun c4 => ?_)
    · replace h := h.1 c4
      refine g_inc (ls' := [zR 81, zI l1, zI l2, zI l3, zI (w32 (l4 + 1)), zJ]) zp218 rfl rfl rfl rfl ?_
      refine g_goto zp218 rfl ?_
      exact g_weak (ls' := [zR 81, zI l1, zI l2, zI l3, zI (w32 (l4 + 1)), zJ]) ⟨Or.inr rfl, Or.inr rfl, Or.inr rfl, Or.inr rfl, Or.inr rfl, Or.inr rfl, trivial⟩ h
    · replace h := h.2 c4
      refine g_il zp218 rfl rfl rfl ?_
      refine g_il zp218 rfl rfl rfl ?_
      refine g_icmp zp218 rfl rfl zc1 (fun c5 => ?_) (fun c5 => ?_)
      · replace h := h.1 c5
        refine g_ic zp218 rfl rfl ?_
        refine g_al zp218 rfl rfl rfl (by decide) ?_
        refine g_get (v := zR 93) zp218 rfl rfl rfl ⟨rfl, by decide, (by decide)⟩ rfl ?_
        refine g_il zp218 rfl rfl rfl ?_
        refine g_ald (v := zI (H 93 l4)) zp218 rfl rfl rfl rfl c3 rfl ?_
        refine g_if zp218 rfl rfl zc0 (fun c6 => ?_) (fun c6 => ?_)
        · replace h := h.1 c6
          refine g_al zp218 rfl rfl rfl (by decide) ?_
          refine g_il zp218 rfl rfl rfl ?_
          refine g_il zp218 rfl rfl rfl ?_
          refine g_callI (as := [zR 81, zI l4, zI l2]) (rest := [zI 1]) zp218 rfl rfl (Nat.succ_pos _) rfl rfl (Nat.le_of_ble_eq_true rfl) (Nat.le_of_ble_eq_true rfl) rfl rfl h (fun x8 H7 h => ?_)
          refine g_ar (r := w32 (1 + x8)) zp218 rfl rfl rfl ?_
          refine g_is (ls' := [zR 81, zI l1, zI l2, zI l3, zI l4, zI (w32 (1 + x8))]) zp218 rfl rfl (Nat.le_of_ble_eq_true rfl) rfl ?_
          refine g_il zp218 rfl rfl rfl ?_
          refine g_il zp218 rfl rfl rfl ?_
          refine g_icmp zp218 rfl rfl zc5 (fun c9 => ?_) (fun c9 => ?_)
          · replace h := h.1 c9
            refine g_il zp218 rfl rfl rfl ?_
            refine g_is (ls' := [zR 81, zI l1, zI l2, zI l3, zI l4, zI (w32 (1 + x8))]) zp218 rfl rfl (Nat.le_of_ble_eq_true rfl) rfl ?_
            refine g_inc (ls' := [zR 81, zI l1, zI l2, zI l3, zI (w32 (l4 + 1)), zI (w32 (1 + x8))]) zp218 rfl rfl rfl rfl ?_
            refine g_goto zp218 rfl ?_
            exact g_weak (ls' := [zR 81, zI l1, zI l2, zI l3, zI (w32 (l4 + 1)), zJ]) ⟨Or.inr rfl, Or.inr rfl, Or.inr rfl, Or.inr rfl, Or.inr rfl, Or.inl rfl, trivial⟩ h
          · replace h := h.2 c9
            refine g_il zp218 rfl rfl rfl ?_
            refine g_goto zp218 rfl ?_
            refine g_is (ls' := [zR 81, zI l1, zI l2, zI (w32 (1 + x8)), zI l4, zI (w32 (1 + x8))]) zp218 rfl rfl (Nat.le_of_ble_eq_true rfl) rfl ?_
            refine g_inc (ls' := [zR 81, zI l1, zI l2, zI (w32 (1 + x8)), zI (w32 (l4 + 1)), zI (w32 (1 + x8))]) zp218 rfl rfl rfl rfl ?_
            refine g_goto zp218 rfl ?_
            exact g_weak (ls' := [zR 81, zI l1, zI l2, zI (w32 (1 + x8)), zI (w32 (l4 + 1)), zJ]) ⟨Or.inr rfl, Or.inr rfl, Or.inr rfl, Or.inr rfl, Or.inr rfl, Or.inl rfl, trivial⟩ h
        · replace h := h.2 c6
          refine g_ic zp218 rfl rfl ?_
          refine g_goto zp218 rfl ?_
          refine g_ar (r := w32 (1 + 0)) zp218 rfl rfl rfl ?_
          refine g_is (ls' := [zR 81, zI l1, zI l2, zI l3, zI l4, zI (w32 (1 + 0))]) zp218 rfl rfl (Nat.le_of_ble_eq_true rfl) rfl ?_
          refine g_il zp218 rfl rfl rfl ?_
          refine g_il zp218 rfl rfl rfl ?_
          refine g_icmp zp218 rfl rfl zc5 (fun c10 => ?_) (fun c10 => ?_)
          · replace h := h.1 c10
            refine g_il zp218 rfl rfl rfl ?_
            refine g_is (ls' := [zR 81, zI l1, zI l2, zI l3, zI l4, zI (w32 (1 + 0))]) zp218 rfl rfl (Nat.le_of_ble_eq_true rfl) rfl ?_
            refine g_inc (ls' := [zR 81, zI l1, zI l2, zI l3, zI (w32 (l4 + 1)), zI (w32 (1 + 0))]) zp218 rfl rfl rfl rfl ?_
            refine g_goto zp218 rfl ?_
            exact g_weak (ls' := [zR 81, zI l1, zI l2, zI l3, zI (w32 (l4 + 1)), zJ]) ⟨Or.inr rfl, Or.inr rfl, Or.inr rfl, Or.inr rfl, Or.inr rfl, Or.inl rfl, trivial⟩ h
          · replace h := h.2 c10
            refine g_il zp218 rfl rfl rfl ?_
            refine g_goto zp218 rfl ?_
            refine g_is (ls' := [zR 81, zI l1, zI l2, zI (w32 (1 + 0)), zI l4, zI (w32 (1 + 0))]) zp218 rfl rfl (Nat.le_of_ble_eq_true rfl) rfl ?_
            refine g_inc (ls' := [zR 81, zI l1, zI l2, zI (w32 (1 + 0)), zI (w32 (l4 + 1)), zI (w32 (1 + 0))]) zp218 rfl rfl rfl rfl ?_
            refine g_goto zp218 rfl ?_
            exact g_weak (ls' := [zR 81, zI l1, zI l2, zI (w32 (1 + 0)), zI (w32 (l4 + 1)), zJ]) ⟨Or.inr rfl, Or.inr rfl, Or.inr rfl, Or.inr rfl, Or.inr rfl, Or.inl rfl, trivial⟩ h
      · replace h := h.2 c5
        refine g_goto zp218 rfl ?_
        refine g_inc (ls' := [zR 81, zI l1, zI l2, zI l3, zI (w32 (l4 + 1)), zJ]) zp218 rfl rfl rfl rfl ?_
        refine g_goto zp218 rfl ?_
        exact g_weak (ls' := [zR 81, zI l1, zI l2, zI l3, zI (w32 (l4 + 1)), zJ]) ⟨Or.inr rfl, Or.inr rfl, Or.inr rfl, Or.inr rfl, Or.inr rfl, Or.inr rfl, trivial⟩ h
theorem zp219 : zprog.getD 219 [] = zk219 := rfl
theorem x219_0 {w : zWt} {d : Nat} {H : zHt} {K : Int → zHt → Prop} {l1 : Int} {l2 : Int}
    (h : zclI w d 173 [zL l1, zL 2, zL 15] H (fun x2 H1 => (x2 = 0 → zgo w (d + 1) 219 32 [zR 81, zI l1, zI l2, zJ] [zI 1, zR 81] H1 (zQI K)) ∧ (¬ x2 = 0 → zclI w d 173 [zL l2, zL 0, zL 2] H1 (fun x5 H4 => (x5 = 0 → zgo w (d + 1) 219 32 [zR 81, zI l1, zI l2, zJ] [zI 1, zR 81] H4 (zQI K)) ∧ (¬ x5 = 0 → zgo w (d + 1) 219 32 [zR 81, zI l1, zI l2, zJ] [zI 0, zR 81] H4 (zQI K)))))) :
    zclI w (d + 1) 219 [zR 81, zI l1, zI l2] H K := by
  show zgo w (d + 1) 219 0 [zR 81, zI l1, zI l2, zJ] [] H (zQI K)
  refine g_al zp219 rfl rfl rfl (by decide) ?_
  refine g_il zp219 rfl rfl rfl ?_
  refine g_i2l zp219 rfl rfl ?_
  refine g_lc zp219 rfl rfl ?_
  refine g_lc zp219 rfl rfl ?_
  refine g_callI (as := [zL l1, zL 2, zL 15]) (rest := [zR 81]) zp219 rfl rfl (Nat.succ_pos _) rfl rfl (Nat.le_of_ble_eq_true rfl) (Nat.le_of_ble_eq_true rfl) rfl rfl h (fun x2 H1 h => ?_)
  refine g_if zp219 rfl rfl zc0 (fun c3 => ?_) (fun c3 => ?_)
  · replace h := h.1 c3
    refine g_ic zp219 rfl rfl ?_
    exact g_weak (ls' := [zR 81, zI l1, zI l2, zJ]) ⟨Or.inr rfl, Or.inr rfl, Or.inr rfl, Or.inr rfl, trivial⟩ h
  · replace h := h.2 c3
    refine g_il zp219 rfl rfl rfl ?_
    refine g_i2l zp219 rfl rfl ?_
    refine g_lc zp219 rfl rfl ?_
    refine g_lc zp219 rfl rfl ?_
    refine g_callI (as := [zL l2, zL 0, zL 2]) (rest := [zR 81]) zp219 rfl rfl (Nat.succ_pos _) rfl rfl (Nat.le_of_ble_eq_true rfl) (Nat.le_of_ble_eq_true rfl) rfl rfl h (fun x5 H4 h => ?_)
    refine g_if zp219 rfl rfl zc0 (fun c6 => ?_) (fun c6 => ?_)
    · replace h := h.1 c6
      refine g_ic zp219 rfl rfl ?_
      exact g_weak (ls' := [zR 81, zI l1, zI l2, zJ]) ⟨Or.inr rfl, Or.inr rfl, Or.inr rfl, Or.inr rfl, trivial⟩ h
    · replace h := h.2 c6
      refine g_ic zp219 rfl rfl ?_
      refine g_goto zp219 rfl ?_
      exact g_weak (ls' := [zR 81, zI l1, zI l2, zJ]) ⟨Or.inr rfl, Or.inr rfl, Or.inr rfl, Or.inr rfl, trivial⟩ h
theorem x219_32 {w : zWt} {d : Nat} {H : zHt} {K : Int → zHt → Prop} {l1 : Int} {l2 : Int} {s1 : Int}
    (h : zclI w d 174 [zR 81, zI s1] H (fun x2 H1 => (¬ x2 = 0 → (¬ l2 = 0 → (¬ l2 = 1 → zclI w d 186 [zR 81, zI (zshl (w32 ((zshl 1 l1) - 1)) (w32 (l1 - 1))), zI 0] H1 (fun x7 H6 => K x7 H6)) ∧ (l2 = 1 → K (zshl (w32 ((zshl 1 l1) - 1)) (w32 (l1 - 1))) H1)) ∧ (l2 = 0 → zclI w d 220 [zR 81, zI (w32 ((zshl 1 l1) - 1))] H1 (fun x9 H8 => (x9 = 0 → K 0 H8) ∧ (¬ x9 = 0 → K 1 H8)))) ∧ (x2 = 0 → K (-1) H1))) :
    zgo w (d + 1) 219 32 [zR 81, zI l1, zI l2, zJ] [zI s1, zR 81] H (zQI K) := by
  refine g_callI (as := [zR 81, zI s1]) (rest := []) zp219 rfl rfl (Nat.succ_pos _) rfl rfl (Nat.le_of_ble_eq_true rfl) (Nat.le_of_ble_eq_true rfl) rfl rfl h (fun x2 H1 h => ?_)
  refine g_if zp219 rfl rfl zc1 (fun c3 => ?_) (fun c3 => ?_)
  · replace h := h.1 c3
    refine g_ic zp219 rfl rfl ?_
    refine g_il zp219 rfl rfl rfl ?_
    refine g_ar (r := zshl 1 l1) zp219 rfl rfl rfl ?_
    refine g_ic zp219 rfl rfl ?_
    refine g_ar (r := w32 ((zshl 1 l1) - 1)) zp219 rfl rfl rfl ?_
    refine g_is (ls' := [zR 81, zI l1, zI l2, zI (w32 ((zshl 1 l1) - 1))]) zp219 rfl rfl (Nat.le_of_ble_eq_true rfl) rfl ?_
    refine g_il zp219 rfl rfl rfl ?_
    refine g_if zp219 rfl rfl zc1 (fun c4 => ?_) (fun c4 => ?_)
    · replace h := h.1 c4
      refine g_il zp219 rfl rfl rfl ?_
      refine g_ic zp219 rfl rfl ?_
      refine g_icmp zp219 rfl rfl zc1 (fun c5 => ?_) (fun c5 => ?_)
      · replace h := h.1 c5
        refine g_al zp219 rfl rfl rfl (by decide) ?_
        refine g_il zp219 rfl rfl rfl ?_
        refine g_il zp219 rfl rfl rfl ?_
        refine g_ic zp219 rfl rfl ?_
        refine g_ar (r := w32 (l1 - 1)) zp219 rfl rfl rfl ?_
        refine g_ar (r := zshl (w32 ((zshl 1 l1) - 1)) (w32 (l1 - 1))) zp219 rfl rfl rfl ?_
        refine g_ic zp219 rfl rfl ?_
        refine g_callI (as := [zR 81, zI (zshl (w32 ((zshl 1 l1) - 1)) (w32 (l1 - 1))), zI 0]) (rest := []) zp219 rfl rfl (Nat.succ_pos _) rfl rfl (Nat.le_of_ble_eq_true rfl) (Nat.le_of_ble_eq_true rfl) rfl rfl h (fun x7 H6 h => ?_)
        exact g_ret zp219 rfl rfl ⟨_, rfl, h⟩
      · replace h := h.2 c5
        refine g_il zp219 rfl rfl rfl ?_
        refine g_il zp219 rfl rfl rfl ?_
        refine g_ic zp219 rfl rfl ?_
        refine g_ar (r := w32 (l1 - 1)) zp219 rfl rfl rfl ?_
        refine g_ar (r := zshl (w32 ((zshl 1 l1) - 1)) (w32 (l1 - 1))) zp219 rfl rfl rfl ?_
        refine g_goto zp219 rfl ?_
        exact g_ret zp219 rfl rfl ⟨_, rfl, h⟩
    · replace h := h.2 c4
      refine g_al zp219 rfl rfl rfl (by decide) ?_
      refine g_il zp219 rfl rfl rfl ?_
      refine g_callI (as := [zR 81, zI (w32 ((zshl 1 l1) - 1))]) (rest := []) zp219 rfl rfl (Nat.succ_pos _) rfl rfl (Nat.le_of_ble_eq_true rfl) (Nat.le_of_ble_eq_true rfl) rfl rfl h (fun x9 H8 h => ?_)
      refine g_if zp219 rfl rfl zc0 (fun c10 => ?_) (fun c10 => ?_)
      · replace h := h.1 c10
        refine g_ic zp219 rfl rfl ?_
        refine g_goto zp219 rfl ?_
        exact g_ret zp219 rfl rfl ⟨_, rfl, h⟩
      · replace h := h.2 c10
        refine g_ic zp219 rfl rfl ?_
        refine g_goto zp219 rfl ?_
        exact g_ret zp219 rfl rfl ⟨_, rfl, h⟩
  · replace h := h.2 c3
    refine g_ic zp219 rfl rfl ?_
    exact g_ret zp219 rfl rfl ⟨_, rfl, h⟩
theorem zp220 : zprog.getD 220 [] = zk220 := rfl
theorem x220_0 {w : zWt} {d : Nat} {H : zHt} {K : Int → zHt → Prop} {l1 : Int}
    (h : (2 ≤ l1 → zclV w d 177 [zR 81, zI l1] H (fun H2 => (¬ (H2 81 8) = 1 → K 0 H2) ∧ ((H2 81 8) = 1 → (¬ (H2 86 0) = 1 → K 0 H2) ∧ ((H2 86 0) = 1 → K 1 H2)))) ∧ (l1 < 2 → K 0 H)) :
    zclI w (d + 1) 220 [zR 81, zI l1] H K := by
  show zgo w (d + 1) 220 0 [zR 81, zI l1] [] H (zQI K)
  refine g_il zp220 rfl rfl rfl ?_
  refine g_ic zp220 rfl rfl ?_
  refine g_icmp zp220 rfl rfl zc3 (fun c1 => ?_) (fun c1 => ?_)
  · replace h := h.1 c1
    refine g_al zp220 rfl rfl rfl (by decide) ?_
    refine g_il zp220 rfl rfl rfl ?_
    refine g_callV (as := [zR 81, zI l1]) (rest := []) zp220 rfl rfl (Nat.succ_pos _) rfl rfl (Nat.le_of_ble_eq_true rfl) (Nat.le_of_ble_eq_true rfl) rfl rfl h (fun H2 h => ?_)
    refine g_al zp220 rfl rfl rfl (by decide) ?_
    refine g_get (v := zI (H2 81 8)) zp220 rfl rfl rfl ⟨rfl, by decide, (by decide)⟩ rfl ?_
    refine g_ic zp220 rfl rfl ?_
    refine g_icmp zp220 rfl rfl zc1 (fun c4 => ?_) (fun c4 => ?_)
    · replace h := h.1 c4
      refine g_ic zp220 rfl rfl ?_
      exact g_ret zp220 rfl (zret_b (by decide)) ⟨_, rfl, h⟩
    · replace h := h.2 c4
      refine g_al zp220 rfl rfl rfl (by decide) ?_
      refine g_get (v := zR 86) zp220 rfl rfl rfl ⟨rfl, by decide, (by decide)⟩ rfl ?_
      refine g_ic zp220 rfl rfl ?_
      refine g_ald (v := zI (H2 86 0)) zp220 rfl rfl rfl rfl (by decide) rfl ?_
      refine g_ic zp220 rfl rfl ?_
      refine g_icmp zp220 rfl rfl zc1 (fun c5 => ?_) (fun c5 => ?_)
      · replace h := h.1 c5
        refine g_ic zp220 rfl rfl ?_
        exact g_ret zp220 rfl (zret_b (by decide)) ⟨_, rfl, h⟩
      · replace h := h.2 c5
        refine g_ic zp220 rfl rfl ?_
        refine g_goto zp220 rfl ?_
        exact g_ret zp220 rfl (zret_b (by decide)) ⟨_, rfl, h⟩
  · replace h := h.2 c1
    refine g_ic zp220 rfl rfl ?_
    exact g_ret zp220 rfl (zret_b (by decide)) ⟨_, rfl, h⟩
