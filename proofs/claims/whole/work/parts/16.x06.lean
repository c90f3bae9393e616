/-! segments: what suffices for a run from there on (by wip/whole/gen3.py) -/
theorem zp149 : zprog.getD 149 [] = zk149 := rfl
theorem x149_0 {w : zWt} {d : Nat} {H : zHt} {K : zHt → Prop} 
    (h : zgo w d 149 2 [zR 36, zI 0, zJ] [] H (zQV K)) :
    zclV w d 149 [zR 36] H K := by
  show zgo w d 149 0 [zR 36, zJ, zJ] [] H (zQV K)
  refine g_ic zp149 rfl rfl ?_
  refine g_is (ls' := [zR 36, zI 0, zJ]) zp149 rfl rfl (Nat.le_of_ble_eq_true rfl) rfl ?_
  exact g_weak (ls' := [zR 36, zI 0, zJ]) ⟨Or.inr rfl, Or.inr rfl, Or.inr rfl, trivial⟩ h
theorem x149_2 {w : zWt} {d : Nat} {H : zHt} {K : zHt → Prop} {l1 : Int}
    (h : ((H 36 3) ≤ l1 → K H) ∧ (l1 < (H 36 3) → zgo w d 149 12 [zR 36, zI l1, zI l1] [] H (zQV K))) :
    zgo w d 149 2 [zR 36, zI l1, zJ] [] H (zQV K) := by
  refine g_il zp149 rfl rfl rfl ?_
  refine g_al zp149 rfl rfl rfl (by decide) ?_
  refine g_get (v := zI (H 36 3)) zp149 rfl rfl rfl ⟨rfl, by decide, (by decide)⟩ rfl ?_
  refine g_icmp zp149 rfl rfl zc3 (fun c1 => ?_) (fun c1 => ?_)
  · replace h := h.1 c1
    exact g_ret zp149 rfl rfl ⟨rfl, h⟩
  · replace h := h.2 c1
    refine g_il zp149 rfl rfl rfl ?_
    refine g_is (ls' := [zR 36, zI l1, zI l1]) zp149 rfl rfl (Nat.le_of_ble_eq_true rfl) rfl ?_
    exact g_weak (ls' := [zR 36, zI l1, zI l1]) ⟨Or.inr rfl, Or.inr rfl, Or.inr rfl, trivial⟩ h
theorem x149_12 {w : zWt} {d : Nat} {H : zHt} {K : zHt → Prop} {l1 : Int} {l2 : Int}
    (h : (l2 ≤ 0 → (0 ≤ l1 ∧ l1 < 9) ∧ (0 ≤ l2 ∧ l2 < 9) ∧ zgo w d 149 2 [zR 36, zI (w32 (l1 + 1)), zJ] [] (zup H 39 l2 (H 38 l1)) (zQV K)) ∧ (0 < l2 → (0 ≤ (w32 (l2 - 1)) ∧ (w32 (l2 - 1)) < 9) ∧ (0 ≤ l1 ∧ l1 < 9) ∧ ((H 38 l1) ≤ (H 39 (w32 (l2 - 1))) → (0 ≤ l2 ∧ l2 < 9) ∧ zgo w d 149 2 [zR 36, zI (w32 (l1 + 1)), zJ] [] (zup H 39 l2 (H 38 l1)) (zQV K)) ∧ ((H 39 (w32 (l2 - 1))) < (H 38 l1) → (0 ≤ l2 ∧ l2 < 9) ∧ zgo w d 149 12 [zR 36, zI l1, zI (w32 (l2 + (-1)))] [] (zup H 39 l2 (H 39 (w32 (l2 - 1)))) (zQV K)))) :
    zgo w d 149 12 [zR 36, zI l1, zI l2] [] H (zQV K) := by
  refine g_il zp149 rfl rfl rfl ?_
  refine g_if zp149 rfl rfl zc5 (fun c1 => ?_) (fun c1 => ?_)
  · replace h := h.1 c1
    refine g_al zp149 rfl rfl rfl (by decide) ?_
    refine g_get (v := zR 39) zp149 rfl rfl rfl ⟨rfl, by decide, (by decide)⟩ rfl ?_
    refine g_il zp149 rfl rfl rfl ?_
    refine g_al zp149 rfl rfl rfl (by decide) ?_
    refine g_get (v := zR 38) zp149 rfl rfl rfl ⟨rfl, by decide, (by decide)⟩ rfl ?_
    refine g_il zp149 rfl rfl rfl ?_
    obtain ⟨c2, h⟩ := h
    refine g_ald (v := zI (H 38 l1)) zp149 rfl rfl rfl rfl c2 rfl ?_
    obtain ⟨c3, h⟩ := h
    refine g_iast zp149 rfl rfl rfl (by decide) rfl c3 ?_
    refine g_inc (ls' := [zR 36, zI (w32 (l1 + 1)), zI l2]) zp149 rfl rfl rfl rfl ?_
    refine g_goto zp149 rfl ?_
    exact g_weak (ls' := [zR 36, zI (w32 (l1 + 1)), zJ]) ⟨Or.inr rfl, Or.inr rfl, Or.inl rfl, trivial⟩ h
  · replace h := h.2 c1
    refine g_al zp149 rfl rfl rfl (by decide) ?_
    refine g_get (v := zR 39) zp149 rfl rfl rfl ⟨rfl, by decide, (by decide)⟩ rfl ?_
    refine g_il zp149 rfl rfl rfl ?_
    refine g_ic zp149 rfl rfl ?_
    refine g_ar (r := w32 (l2 - 1)) zp149 rfl rfl rfl ?_
    obtain ⟨c4, h⟩ := h
    refine g_ald (v := zI (H 39 (w32 (l2 - 1)))) zp149 rfl rfl rfl rfl c4 rfl ?_
    refine g_al zp149 rfl rfl rfl (by decide) ?_
    refine g_get (v := zR 38) zp149 rfl rfl rfl ⟨rfl, by decide, (by decide)⟩ rfl ?_
    refine g_il zp149 rfl rfl rfl ?_
    obtain ⟨c5, h⟩ := h
    refine g_ald (v := zI (H 38 l1)) zp149 rfl rfl rfl rfl c5 rfl ?_
    refine g_icmp zp149 rfl rfl zc3 (fun c6 => ?_) (fun c6 => ?_)
    · replace h := h.1 c6
      refine g_al zp149 rfl rfl rfl (by decide) ?_
      refine g_get (v := zR 39) zp149 rfl rfl rfl ⟨rfl, by decide, (by decide)⟩ rfl ?_
      refine g_il zp149 rfl rfl rfl ?_
      refine g_al zp149 rfl rfl rfl (by decide) ?_
      refine g_get (v := zR 38) zp149 rfl rfl rfl ⟨rfl, by decide, (by decide)⟩ rfl ?_
      refine g_il zp149 rfl rfl rfl ?_
      refine g_ald (v := zI (H 38 l1)) zp149 rfl rfl rfl rfl c5 rfl ?_
      obtain ⟨c7, h⟩ := h
      refine g_iast zp149 rfl rfl rfl (by decide) rfl c7 ?_
      refine g_inc (ls' := [zR 36, zI (w32 (l1 + 1)), zI l2]) zp149 rfl rfl rfl rfl ?_
      refine g_goto zp149 rfl ?_
      exact g_weak (ls' := [zR 36, zI (w32 (l1 + 1)), zJ]) ⟨Or.inr rfl, Or.inr rfl, Or.inl rfl, trivial⟩ h
    · replace h := h.2 c6
      refine g_al zp149 rfl rfl rfl (by decide) ?_
      refine g_get (v := zR 39) zp149 rfl rfl rfl ⟨rfl, by decide, (by decide)⟩ rfl ?_
      refine g_il zp149 rfl rfl rfl ?_
      refine g_al zp149 rfl rfl rfl (by decide) ?_
      refine g_get (v := zR 39) zp149 rfl rfl rfl ⟨rfl, by decide, (by decide)⟩ rfl ?_
      refine g_il zp149 rfl rfl rfl ?_
      refine g_ic zp149 rfl rfl ?_
      refine g_ar (r := w32 (l2 - 1)) zp149 rfl rfl rfl ?_
      refine g_ald (v := zI (H 39 (w32 (l2 - 1)))) zp149 rfl rfl rfl rfl c4 rfl ?_
      obtain ⟨c8, h⟩ := h
      refine g_iast zp149 rfl rfl rfl (by decide) rfl c8 ?_
      refine g_inc (ls' := [zR 36, zI l1, zI (w32 (l2 + (-1)))]) zp149 rfl rfl rfl rfl ?_
      refine g_goto zp149 rfl ?_
      exact g_weak (ls' := [zR 36, zI l1, zI (w32 (l2 + (-1)))]) ⟨Or.inr rfl, Or.inr rfl, Or.inr rfl, trivial⟩ h
theorem zp150 : zprog.getD 150 [] = zk150 := rfl
theorem x150_0 {w : zWt} {d : Nat} {H : zHt} {K : Int → zHt → Prop} {l1 : Int} {l2 : Int}
    (h : zclI w d 43 [zI l1] H (fun x2 H1 => (x2 = 0 → zclI w d 13 [zR 32, zI 1] H1 (fun x5 H4 => K x5 H4)) ∧ (¬ x2 = 0 → zclI w d 43 [zI l2] H1 (fun x7 H6 => (¬ x7 = 0 → zclI w d 148 [zR 36, zI l1] H6 (fun x10 H9 => zclI w d 148 [zR 36, zI l2] H9 (fun x12 H11 => (¬ x10 = x12 → zclI w d 39 [zR 32, zI 0] H11 (fun x15 H14 => K x15 H14)) ∧ (x10 = x12 → zclI w d 39 [zR 32, zI 1] H11 (fun x17 H16 => K x17 H16))))) ∧ (x7 = 0 → zclI w d 13 [zR 32, zI 1] H6 (fun x19 H18 => K x19 H18)))))) :
    zclI w (d + 1) 150 [zR 32, zI l1, zI l2] H K := by
  show zgo w (d + 1) 150 0 [zR 32, zI l1, zI l2] [] H (zQI K)
  refine g_il zp150 rfl rfl rfl ?_
  refine g_callI (as := [zI l1]) (rest := []) zp150 rfl rfl (Nat.succ_pos _) rfl rfl (Nat.le_of_ble_eq_true rfl) (Nat.le_of_ble_eq_true rfl) rfl rfl h (fun x2 H1 h => ?_)
  refine g_if zp150 rfl rfl zc0 (fun c3 => ?_) (fun c3 => ?_)
  · replace h := h.1 c3
    refine g_al zp150 rfl rfl rfl (by decide) ?_
    refine g_ic zp150 rfl rfl ?_
    refine g_callI (as := [zR 32, zI 1]) (rest := []) zp150 rfl rfl (Nat.succ_pos _) rfl rfl (Nat.le_of_ble_eq_true rfl) (Nat.le_of_ble_eq_true rfl) rfl rfl h (fun x5 H4 h => ?_)
    exact g_ret zp150 rfl rfl ⟨_, rfl, h⟩
  · replace h := h.2 c3
    refine g_il zp150 rfl rfl rfl ?_
    refine g_callI (as := [zI l2]) (rest := []) zp150 rfl rfl (Nat.succ_pos _) rfl rfl (Nat.le_of_ble_eq_true rfl) (Nat.le_of_ble_eq_true rfl) rfl rfl h (fun x7 H6 h => ?_)
    refine g_if zp150 rfl rfl zc1 (fun c8 => ?_) (fun c8 => ?_)
    · replace h := h.1 c8
      refine g_al zp150 rfl rfl rfl (by decide) ?_
      refine g_al zp150 rfl rfl rfl (by decide) ?_
      refine g_get (v := zR 36) zp150 rfl rfl rfl ⟨rfl, by decide, (by decide)⟩ rfl ?_
      refine g_il zp150 rfl rfl rfl ?_
      refine g_callI (as := [zR 36, zI l1]) (rest := [zR 32]) zp150 rfl rfl (Nat.succ_pos _) rfl rfl (Nat.le_of_ble_eq_true rfl) (Nat.le_of_ble_eq_true rfl) rfl rfl h (fun x10 H9 h => ?_)
      refine g_al zp150 rfl rfl rfl (by decide) ?_
      refine g_get (v := zR 36) zp150 rfl rfl rfl ⟨rfl, by decide, (by decide)⟩ rfl ?_
      refine g_il zp150 rfl rfl rfl ?_
      refine g_callI (as := [zR 36, zI l2]) (rest := [zI x10, zR 32]) zp150 rfl rfl (Nat.succ_pos _) rfl rfl (Nat.le_of_ble_eq_true rfl) (Nat.le_of_ble_eq_true rfl) rfl rfl h (fun x12 H11 h => ?_)
      refine g_icmp zp150 rfl rfl zc1 (fun c13 => ?_) (fun c13 => ?_)
      · replace h := h.1 c13
        refine g_ic zp150 rfl rfl ?_
        refine g_callI (as := [zR 32, zI 0]) (rest := []) zp150 rfl rfl (Nat.succ_pos _) rfl rfl (Nat.le_of_ble_eq_true rfl) (Nat.le_of_ble_eq_true rfl) rfl rfl h (fun x15 H14 h => ?_)
        exact g_ret zp150 rfl rfl ⟨_, rfl, h⟩
      · replace h := h.2 c13
        refine g_ic zp150 rfl rfl ?_
        refine g_goto zp150 rfl ?_
        refine g_callI (as := [zR 32, zI 1]) (rest := []) zp150 rfl rfl (Nat.succ_pos _) rfl rfl (Nat.le_of_ble_eq_true rfl) (Nat.le_of_ble_eq_true rfl) rfl rfl h (fun x17 H16 h => ?_)
        exact g_ret zp150 rfl rfl ⟨_, rfl, h⟩
    · replace h := h.2 c8
      refine g_al zp150 rfl rfl rfl (by decide) ?_
      refine g_ic zp150 rfl rfl ?_
      refine g_callI (as := [zR 32, zI 1]) (rest := []) zp150 rfl rfl (Nat.succ_pos _) rfl rfl (Nat.le_of_ble_eq_true rfl) (Nat.le_of_ble_eq_true rfl) rfl rfl h (fun x19 H18 h => ?_)
      exact g_ret zp150 rfl rfl ⟨_, rfl, h⟩
theorem zp151 : zprog.getD 151 [] = zk151 := rfl
theorem x151_0 {w : zWt} {d : Nat} {H : zHt} {K : Int → zHt → Prop} {l1 : Int} {l2 : Int} {l3 : Int}
    (h : (l1 < 2 → zclI w d 13 [zR 32, zI 1] H (fun x3 H2 => K x3 H2)) ∧ (2 ≤ l1 → (9 < l1 → zclI w d 13 [zR 32, zI 1] H (fun x6 H5 => K x6 H5)) ∧ (l1 ≤ 9 → (l2 < 1 → zclI w d 13 [zR 32, zI 1] H (fun x9 H8 => K x9 H8)) ∧ (1 ≤ l2 → (l1 ≤ l2 → zclI w d 13 [zR 32, zI 1] H (fun x12 H11 => K x12 H11)) ∧ (l2 < l1 → zclI w d 44 [zI l3, zI 5] H (fun x14 H13 => (¬ x14 = 0 → ∀ v16 : Int, v16 = w32 ((zshl (w32 ((w32 ((zshl 1 (w32 (l1 - l2))) + 1)) * (w32 ((zshl 1 (w32 (l1 - l2))) + 1)))) (w32 (l1 + l2))) - 1) → zclI w d 103 [zR 36, zI (w32 ((zshl (w32 ((zshl 1 (w32 (l1 - l2))) + 1)) l2) - 1))] H13 (fun x18 H17 => (x18 = 0 → (l3 ≤ 3 → zgo w (d + 1) 151 134 [zR 32, zI l1, zJ, zI l3, zJ, zI (w32 ((zshl (w32 ((zshl 1 (w32 (l1 - l2))) + 1)) l2) - 1)), zI (w32 ((zshl (w32 ((zshl 1 (w32 (l1 - l2))) + 1)) l1) - 1)), zI v16, zI 0] [] H17 (zQL K)) ∧ (3 < l3 → zclI w d 13 [zR 32, zI 5] H17 (fun x23 H22 => K x23 H22))) ∧ (¬ x18 = 0 → zclI w d 103 [zR 36, zI (w32 ((zshl (w32 ((zshl 1 (w32 (l1 - l2))) + 1)) l1) - 1))] H17 (fun x25 H24 => (x25 = 0 → (l3 ≤ 3 → zgo w (d + 1) 151 134 [zR 32, zI l1, zJ, zI l3, zJ, zI (w32 ((zshl (w32 ((zshl 1 (w32 (l1 - l2))) + 1)) l2) - 1)), zI (w32 ((zshl (w32 ((zshl 1 (w32 (l1 - l2))) + 1)) l1) - 1)), zI v16, zI 0] [] H24 (zQL K)) ∧ (3 < l3 → zclI w d 13 [zR 32, zI 5] H24 (fun x30 H29 => K x30 H29))) ∧ (¬ x25 = 0 → zclI w d 103 [zR 36, zI v16] H24 (fun x32 H31 => (x32 = 0 → (l3 ≤ 3 → zgo w (d + 1) 151 134 [zR 32, zI l1, zJ, zI l3, zJ, zI (w32 ((zshl (w32 ((zshl 1 (w32 (l1 - l2))) + 1)) l2) - 1)), zI (w32 ((zshl (w32 ((zshl 1 (w32 (l1 - l2))) + 1)) l1) - 1)), zI v16, zI 0] [] H31 (zQL K)) ∧ (3 < l3 → zclI w d 13 [zR 32, zI 5] H31 (fun x37 H36 => K x37 H36))) ∧ (¬ x32 = 0 → (l3 ≤ 3 → zgo w (d + 1) 151 134 [zR 32, zI l1, zJ, zI l3, zJ, zI (w32 ((zshl (w32 ((zshl 1 (w32 (l1 - l2))) + 1)) l2) - 1)), zI (w32 ((zshl (w32 ((zshl 1 (w32 (l1 - l2))) + 1)) l1) - 1)), zI v16, zI 1] [] H31 (zQL K)) ∧ (3 < l3 → zgo w (d + 1) 151 134 [zR 32, zI l1, zJ, zI l3, zJ, zI (w32 ((zshl (w32 ((zshl 1 (w32 (l1 - l2))) + 1)) l2) - 1)), zI (w32 ((zshl (w32 ((zshl 1 (w32 (l1 - l2))) + 1)) l1) - 1)), zI v16, zI 1] [] H31 (zQL K))))))))) ∧ (x14 = 0 → zclI w d 13 [zR 32, zI 1] H13 (fun x41 H40 => K x41 H40)))))))) :
    zclL w (d + 1) 151 [zR 32, zI l1, zI l2, zI l3] H K := by
  show zgo w (d + 1) 151 0 [zR 32, zI l1, zI l2, zI l3, zJ, zJ, zJ, zJ, zJ] [] H (zQL K)
  refine g_il zp151 rfl rfl rfl ?_
  refine g_ic zp151 rfl rfl ?_
  refine g_icmp zp151 rfl rfl zc2 (fun c1 => ?_) (fun c1 => ?_)
  · replace h := h.1 c1
    refine g_al zp151 rfl rfl rfl (by decide) ?_
    refine g_ic zp151 rfl rfl ?_
    refine g_callI (as := [zR 32, zI 1]) (rest := []) zp151 rfl rfl (Nat.succ_pos _) rfl rfl (Nat.le_of_ble_eq_true rfl) (Nat.le_of_ble_eq_true rfl) rfl rfl h (fun x3 H2 h => ?_)
    refine g_i2l zp151 rfl rfl ?_
    exact g_ret zp151 rfl rfl ⟨_, rfl, h⟩
  · replace h := h.2 c1
    refine g_il zp151 rfl rfl rfl ?_
    refine g_ic zp151 rfl rfl ?_
    refine g_icmp zp151 rfl rfl zc4 (fun c4 => ?_) (fun c4 => ?_)
    · replace h := h.1 c4
      refine g_al zp151 rfl rfl rfl (by decide) ?_
      refine g_ic zp151 rfl rfl ?_
      refine g_callI (as := [zR 32, zI 1]) (rest := []) zp151 rfl rfl (Nat.succ_pos _) rfl rfl (Nat.le_of_ble_eq_true rfl) (Nat.le_of_ble_eq_true rfl) rfl rfl h (fun x6 H5 h => ?_)
      refine g_i2l zp151 rfl rfl ?_
      exact g_ret zp151 rfl rfl ⟨_, rfl, h⟩
    · replace h := h.2 c4
      refine g_il zp151 rfl rfl rfl ?_
      refine g_ic zp151 rfl rfl ?_
      refine g_icmp zp151 rfl rfl zc2 (fun c7 => ?_) (fun c7 => ?_)
      · replace h := h.1 c7
        refine g_al zp151 rfl rfl rfl (by decide) ?_
        refine g_ic zp151 rfl rfl ?_
        refine g_callI (as := [zR 32, zI 1]) (rest := []) zp151 rfl rfl (Nat.succ_pos _) rfl rfl (Nat.le_of_ble_eq_true rfl) (Nat.le_of_ble_eq_true rfl) rfl rfl h (fun x9 H8 h => ?_)
        refine g_i2l zp151 rfl rfl ?_
        exact g_ret zp151 rfl rfl ⟨_, rfl, h⟩
      · replace h := h.2 c7
        refine g_il zp151 rfl rfl rfl ?_
        refine g_il zp151 rfl rfl rfl ?_
        refine g_icmp zp151 rfl rfl zc3 (fun c10 => ?_) (fun c10 => ?_)
        · replace h := h.1 c10
          refine g_al zp151 rfl rfl rfl (by decide) ?_
          refine g_ic zp151 rfl rfl ?_
          refine g_callI (as := [zR 32, zI 1]) (rest := []) zp151 rfl rfl (Nat.succ_pos _) rfl rfl (Nat.le_of_ble_eq_true rfl) (Nat.le_of_ble_eq_true rfl) rfl rfl h (fun x12 H11 h => ?_)
          refine g_i2l zp151 rfl rfl ?_
          exact g_ret zp151 rfl rfl ⟨_, rfl, h⟩
        · replace h := h.2 c10
          refine g_il zp151 rfl rfl rfl ?_
          refine g_ic zp151 rfl rfl ?_
          refine g_callI (as := [zI l3, zI 5]) (rest := []) zp151 rfl rfl (Nat.succ_pos _) rfl rfl (Nat.le_of_ble_eq_true rfl) (Nat.le_of_ble_eq_true rfl) rfl rfl h (fun x14 H13 h => ?_)
          refine g_if zp151 rfl rfl zc1 (fun c15 => ?_) (fun c15 => ?_)
          · replace h := h.1 c15
            refine g_ic zp151 rfl rfl ?_
            refine g_il zp151 rfl rfl rfl ?_
            refine g_il zp151 rfl rfl rfl ?_
            refine g_ar (r := w32 (l1 - l2)) zp151 rfl rfl rfl ?_
            refine g_ar (r := zshl 1 (w32 (l1 - l2))) zp151 rfl rfl rfl ?_
            refine g_ic zp151 rfl rfl ?_
            refine g_ar (r := w32 ((zshl 1 (w32 (l1 - l2))) + 1)) zp151 rfl rfl rfl ?_
            refine g_is (ls' := [zR 32, zI l1, zI l2, zI l3, zI (w32 ((zshl 1 (w32 (l1 - l2))) + 1)), zJ, zJ, zJ, zJ]) zp151 rfl rfl (Nat.le_of_ble_eq_true rfl) rfl ?_
            refine g_il zp151 rfl rfl rfl ?_
            refine g_il zp151 rfl rfl rfl ?_
            refine g_ar (r := zshl (w32 ((zshl 1 (w32 (l1 - l2))) + 1)) l2) zp151 rfl rfl rfl ?_
            refine g_ic zp151 rfl rfl ?_
            refine g_ar (r := w32 ((zshl (w32 ((zshl 1 (w32 (l1 - l2))) + 1)) l2) - 1)) zp151 rfl rfl rfl ?_
            refine g_is (ls' := [zR 32, zI l1, zI l2, zI l3, zI (w32 ((zshl 1 (w32 (l1 - l2))) + 1)), zI (w32 ((zshl (w32 ((zshl 1 (w32 (l1 - l2))) + 1)) l2) - 1)), zJ, zJ, zJ]) zp151 rfl rfl (Nat.le_of_ble_eq_true rfl) rfl ?_
            refine g_il zp151 rfl rfl rfl ?_
            refine g_il zp151 rfl rfl rfl ?_
            refine g_ar (r := zshl (w32 ((zshl 1 (w32 (l1 - l2))) + 1)) l1) zp151 rfl rfl rfl ?_
            refine g_ic zp151 rfl rfl ?_
            refine g_ar (r := w32 ((zshl (w32 ((zshl 1 (w32 (l1 - l2))) + 1)) l1) - 1)) zp151 rfl rfl rfl ?_
            refine g_is (ls' := [zR 32, zI l1, zI l2, zI l3, zI (w32 ((zshl 1 (w32 (l1 - l2))) + 1)), zI (w32 ((zshl (w32 ((zshl 1 (w32 (l1 - l2))) + 1)) l2) - 1)), zI (w32 ((zshl (w32 ((zshl 1 (w32 (l1 - l2))) + 1)) l1) - 1)), zJ, zJ]) zp151 rfl rfl (Nat.le_of_ble_eq_true rfl) rfl ?_
            refine g_il zp151 rfl rfl rfl ?_
            refine g_il zp151 rfl rfl rfl ?_
            refine g_ar (r := w32 ((w32 ((zshl 1 (w32 (l1 - l2))) + 1)) * (w32 ((zshl 1 (w32 (l1 - l2))) + 1)))) zp151 rfl rfl rfl ?_
            refine g_il zp151 rfl rfl rfl ?_
            refine g_il zp151 rfl rfl rfl ?_
            refine g_ar (r := w32 (l1 + l2)) zp151 rfl rfl rfl ?_
            refine g_ar (r := zshl (w32 ((w32 ((zshl 1 (w32 (l1 - l2))) + 1)) * (w32 ((zshl 1 (w32 (l1 - l2))) + 1)))) (w32 (l1 + l2))) zp151 rfl rfl rfl ?_
            refine g_ic zp151 rfl rfl ?_
            refine g_ar (r := w32 ((zshl (w32 ((w32 ((zshl 1 (w32 (l1 - l2))) + 1)) * (w32 ((zshl 1 (w32 (l1 - l2))) + 1)))) (w32 (l1 + l2))) - 1)) zp151 rfl rfl rfl ?_
            let v16 : Int := w32 ((zshl (w32 ((w32 ((zshl 1 (w32 (l1 - l2))) + 1)) * (w32 ((zshl 1 (w32 (l1 - l2))) + 1)))) (w32 (l1 + l2))) - 1)
            replace h := h v16 rfl
            refine g_is (ls' := [zR 32, zI l1, zI l2, zI l3, zI (w32 ((zshl 1 (w32 (l1 - l2))) + 1)), zI (w32 ((zshl (w32 ((zshl 1 (w32 (l1 - l2))) + 1)) l2) - 1)), zI (w32 ((zshl (w32 ((zshl 1 (w32 (l1 - l2))) + 1)) l1) - 1)), zI v16, zJ]) zp151 rfl rfl (Nat.le_of_ble_eq_true rfl) rfl ?_
            refine g_al zp151 rfl rfl rfl (by decide) ?_
            refine g_get (v := zR 36) zp151 rfl rfl rfl ⟨rfl, by decide, (by decide)⟩ rfl ?_
            refine g_il zp151 rfl rfl rfl ?_
            refine g_callI (as := [zR 36, zI (w32 ((zshl (w32 ((zshl 1 (w32 (l1 - l2))) + 1)) l2) - 1))]) (rest := []) zp151 rfl rfl (Nat.succ_pos _) rfl rfl (Nat.le_of_ble_eq_true rfl) (Nat.le_of_ble_eq_true rfl) rfl rfl h (fun x18 H17 h => ?_)
            refine g_if zp151 rfl rfl zc0 (fun c19 => ?_) (fun c19 => ?_)
            · replace h := h.1 c19
              refine g_ic zp151 rfl rfl ?_
              refine g_is (ls' := [zR 32, zI l1, zI l2, zI l3, zI (w32 ((zshl 1 (w32 (l1 - l2))) + 1)), zI (w32 ((zshl (w32 ((zshl 1 (w32 (l1 - l2))) + 1)) l2) - 1)), zI (w32 ((zshl (w32 ((zshl 1 (w32 (l1 - l2))) + 1)) l1) - 1)), zI v16, zI 0]) zp151 rfl rfl (Nat.le_of_ble_eq_true rfl) rfl ?_
              refine g_il zp151 rfl rfl rfl ?_
              refine g_ic zp151 rfl rfl ?_
              refine g_icmp zp151 rfl rfl zc5 (fun c20 => ?_) (fun c20 => ?_)
              · replace h := h.1 c20
                exact g_weak (ls' := [zR 32, zI l1, zJ, zI l3, zJ, zI (w32 ((zshl (w32 ((zshl 1 (w32 (l1 - l2))) + 1)) l2) - 1)), zI (w32 ((zshl (w32 ((zshl 1 (w32 (l1 - l2))) + 1)) l1) - 1)), zI v16, zI 0]) ⟨Or.inr rfl, Or.inr rfl, Or.inl rfl, Or.inr rfl, Or.inl rfl, Or.inr rfl, Or.inr rfl, Or.inr rfl, Or.inr rfl, trivial⟩ h
              · replace h := h.2 c20
                refine g_il zp151 rfl rfl rfl ?_
                refine g_if zp151 rfl rfl zc1 (fun c21 => ?_) (fun c21 => ?_)
                · exact absurd c21 (by decide)
                · refine g_al zp151 rfl rfl rfl (by decide) ?_
                  refine g_ic zp151 rfl rfl ?_
                  refine g_callI (as := [zR 32, zI 5]) (rest := []) zp151 rfl rfl (Nat.succ_pos _) rfl rfl (Nat.le_of_ble_eq_true rfl) (Nat.le_of_ble_eq_true rfl) rfl rfl h (fun x23 H22 h => ?_)
                  refine g_i2l zp151 rfl rfl ?_
                  exact g_ret zp151 rfl rfl ⟨_, rfl, h⟩
            · replace h := h.2 c19
              refine g_al zp151 rfl rfl rfl (by decide) ?_
              refine g_get (v := zR 36) zp151 rfl rfl rfl ⟨rfl, by decide, (by decide)⟩ rfl ?_
              refine g_il zp151 rfl rfl rfl ?_
              refine g_callI (as := [zR 36, zI (w32 ((zshl (w32 ((zshl 1 (w32 (l1 - l2))) + 1)) l1) - 1))]) (rest := []) zp151 rfl rfl (Nat.succ_pos _) rfl rfl (Nat.le_of_ble_eq_true rfl) (Nat.le_of_ble_eq_true rfl) rfl rfl h (fun x25 H24 h => ?_)
              refine g_if zp151 rfl rfl zc0 (fun c26 => ?_) (fun c26 => ?_)
              · replace h := h.1 c26
                refine g_ic zp151 rfl rfl ?_
                refine g_is (ls' := [zR 32, zI l1, zI l2, zI l3, zI (w32 ((zshl 1 (w32 (l1 - l2))) + 1)), zI (w32 ((zshl (w32 ((zshl 1 (w32 (l1 - l2))) + 1)) l2) - 1)), zI (w32 ((zshl (w32 ((zshl 1 (w32 (l1 - l2))) + 1)) l1) - 1)), zI v16, zI 0]) zp151 rfl rfl (Nat.le_of_ble_eq_true rfl) rfl ?_
                refine g_il zp151 rfl rfl rfl ?_
                refine g_ic zp151 rfl rfl ?_
                refine g_icmp zp151 rfl rfl zc5 (fun c27 => ?_) (fun c27 => ?_)
                · replace h := h.1 c27
                  exact g_weak (ls' := [zR 32, zI l1, zJ, zI l3, zJ, zI (w32 ((zshl (w32 ((zshl 1 (w32 (l1 - l2))) + 1)) l2) - 1)), zI (w32 ((zshl (w32 ((zshl 1 (w32 (l1 - l2))) + 1)) l1) - 1)), zI v16, zI 0]) ⟨Or.inr rfl, Or.inr rfl, Or.inl rfl, Or.inr rfl, Or.inl rfl, Or.inr rfl, Or.inr rfl, Or.inr rfl, Or.inr rfl, trivial⟩ h
                · replace h := h.2 c27
                  refine g_il zp151 rfl rfl rfl ?_
                  refine g_if zp151 rfl rfl zc1 (fun c28 => ?_) (fun c28 => ?_)
                  · exact absurd c28 (by decide)
                  · refine g_al zp151 rfl rfl rfl (by decide) ?_
                    refine g_ic zp151 rfl rfl ?_
                    refine g_callI (as := [zR 32, zI 5]) (rest := []) zp151 rfl rfl (Nat.succ_pos _) rfl rfl (Nat.le_of_ble_eq_true rfl) (Nat.le_of_ble_eq_true rfl) rfl rfl h (fun x30 H29 h => ?_)
                    refine g_i2l zp151 rfl rfl ?_
                    exact g_ret zp151 rfl rfl ⟨_, rfl, h⟩
              · replace h := h.2 c26
                refine g_al zp151 rfl rfl rfl (by decide) ?_
                refine g_get (v := zR 36) zp151 rfl rfl rfl ⟨rfl, by decide, (by decide)⟩ rfl ?_
                refine g_il zp151 rfl rfl rfl ?_
                refine g_callI (as := [zR 36, zI v16]) (rest := []) zp151 rfl rfl (Nat.succ_pos _) rfl rfl (Nat.le_of_ble_eq_true rfl) (Nat.le_of_ble_eq_true rfl) rfl rfl h (fun x32 H31 h => ?_)
                refine g_if zp151 rfl rfl zc0 (fun c33 => ?_) (fun c33 => ?_)
                · replace h := h.1 c33
                  refine g_ic zp151 rfl rfl ?_
                  refine g_is (ls' := [zR 32, zI l1, zI l2, zI l3, zI (w32 ((zshl 1 (w32 (l1 - l2))) + 1)), zI (w32 ((zshl (w32 ((zshl 1 (w32 (l1 - l2))) + 1)) l2) - 1)), zI (w32 ((zshl (w32 ((zshl 1 (w32 (l1 - l2))) + 1)) l1) - 1)), zI v16, zI 0]) zp151 rfl rfl (Nat.le_of_ble_eq_true rfl) rfl ?_
                  refine g_il zp151 rfl rfl rfl ?_
                  refine g_ic zp151 rfl rfl ?_
                  refine g_icmp zp151 rfl rfl zc5 (fun c34 => ?_) (fun c34 => ?_)
                  · replace h := h.1 c34
                    exact g_weak (ls' := [zR 32, zI l1, zJ, zI l3, zJ, zI (w32 ((zshl (w32 ((zshl 1 (w32 (l1 - l2))) + 1)) l2) - 1)), zI (w32 ((zshl (w32 ((zshl 1 (w32 (l1 - l2))) + 1)) l1) - 1)), zI v16, zI 0]) ⟨Or.inr rfl, Or.inr rfl, Or.inl rfl, Or.inr rfl, Or.inl rfl, Or.inr rfl, Or.inr rfl, Or.inr rfl, Or.inr rfl, trivial⟩ h
                  · replace h := h.2 c34
                    refine g_il zp151 rfl rfl rfl ?_
                    refine g_if zp151 rfl rfl zc1 (fun c35 => ?_) (fun c35 => ?_)
                    · exact absurd c35 (by decide)
                    · refine g_al zp151 rfl rfl rfl (by decide) ?_
                      refine g_ic zp151 rfl rfl ?_
                      refine g_callI (as := [zR 32, zI 5]) (rest := []) zp151 rfl rfl (Nat.succ_pos _) rfl rfl (Nat.le_of_ble_eq_true rfl) (Nat.le_of_ble_eq_true rfl) rfl rfl h (fun x37 H36 h => ?_)
                      refine g_i2l zp151 rfl rfl ?_
                      exact g_ret zp151 rfl rfl ⟨_, rfl, h⟩
                · replace h := h.2 c33
                  refine g_ic zp151 rfl rfl ?_
                  refine g_goto zp151 rfl ?_
                  refine g_is (ls' := [zR 32, zI l1, zI l2, zI l3, zI (w32 ((zshl 1 (w32 (l1 - l2))) + 1)), zI (w32 ((zshl (w32 ((zshl 1 (w32 (l1 - l2))) + 1)) l2) - 1)), zI (w32 ((zshl (w32 ((zshl 1 (w32 (l1 - l2))) + 1)) l1) - 1)), zI v16, zI 1]) zp151 rfl rfl (Nat.le_of_ble_eq_true rfl) rfl ?_
                  refine g_il zp151 rfl rfl rfl ?_
                  refine g_ic zp151 rfl rfl ?_
                  refine g_icmp zp151 rfl rfl zc5 (fun c38 => ?_) (fun c38 => ?_)
                  · replace h := h.1 c38
                    exact g_weak (ls' := [zR 32, zI l1, zJ, zI l3, zJ, zI (w32 ((zshl (w32 ((zshl 1 (w32 (l1 - l2))) + 1)) l2) - 1)), zI (w32 ((zshl (w32 ((zshl 1 (w32 (l1 - l2))) + 1)) l1) - 1)), zI v16, zI 1]) ⟨Or.inr rfl, Or.inr rfl, Or.inl rfl, Or.inr rfl, Or.inl rfl, Or.inr rfl, Or.inr rfl, Or.inr rfl, Or.inr rfl, trivial⟩ h
                  · replace h := h.2 c38
                    refine g_il zp151 rfl rfl rfl ?_
                    refine g_if zp151 rfl rfl zc1 (fun c39 => ?_) (fun c39 => ?_)
                    · exact g_weak (ls' := [zR 32, zI l1, zJ, zI l3, zJ, zI (w32 ((zshl (w32 ((zshl 1 (w32 (l1 - l2))) + 1)) l2) - 1)), zI (w32 ((zshl (w32 ((zshl 1 (w32 (l1 - l2))) + 1)) l1) - 1)), zI v16, zI 1]) ⟨Or.inr rfl, Or.inr rfl, Or.inl rfl, Or.inr rfl, Or.inl rfl, Or.inr rfl, Or.inr rfl, Or.inr rfl, Or.inr rfl, trivial⟩ h
                    · exact absurd c39 (by decide)
          · replace h := h.2 c15
            refine g_al zp151 rfl rfl rfl (by decide) ?_
            refine g_ic zp151 rfl rfl ?_
            refine g_callI (as := [zR 32, zI 1]) (rest := []) zp151 rfl rfl (Nat.succ_pos _) rfl rfl (Nat.le_of_ble_eq_true rfl) (Nat.le_of_ble_eq_true rfl) rfl rfl h (fun x41 H40 h => ?_)
            refine g_i2l zp151 rfl rfl ?_
            exact g_ret zp151 rfl rfl ⟨_, rfl, h⟩
theorem x151_134 {w : zWt} {d : Nat} {H : zHt} {K : Int → zHt → Prop} {l1 : Int} {l3 : Int} {l5 : Int} {l6 : Int} {l7 : Int} {l8 : Int}
    (h : (l3 < 0 ∨ 5 ≤ l3 → zclL w d 60 [zR 32, zL (zshlL l7 l1)] H (fun x2 H1 => K x2 H1)) ∧ (l3 = 0 → (l8 = 0 → zclI w d 39 [zR 32, zI 0] H (fun x5 H4 => K x5 H4)) ∧ (¬ l8 = 0 → zclI w d 39 [zR 32, zI 1] H (fun x7 H6 => K x7 H6))) ∧ (l3 = 1 → zclI w d 39 [zR 32, zI l5] H (fun x9 H8 => K x9 H8)) ∧ (l3 = 2 → zclI w d 39 [zR 32, zI l6] H (fun x11 H10 => K x11 H10)) ∧ (l3 = 3 → zclI w d 39 [zR 32, zI l7] H (fun x13 H12 => K x13 H12)) ∧ (l3 = 4 → zclL w d 60 [zR 32, zL (w64 ((zshlL l5 l1) * l6))] H (fun x15 H14 => K x15 H14))) :
    zgo w (d + 1) 151 134 [zR 32, zI l1, zJ, zI l3, zJ, zI l5, zI l6, zI l7, zI l8] [] H (zQL K) := by
  refine g_il zp151 rfl rfl rfl ?_
  rcases Classical.em (l3 < 0 ∨ 5 ≤ l3) with c | c
  · refine g_tabO zp151 rfl c ?_
    replace h := h.1 c
    refine g_al zp151 rfl rfl rfl (by decide) ?_
    refine g_il zp151 rfl rfl rfl ?_
    refine g_i2l zp151 rfl rfl ?_
    refine g_il zp151 rfl rfl rfl ?_
    refine g_lsh zp151 rfl rfl ?_
    refine g_callL (as := [zR 32, zL (zshlL l7 l1)]) (rest := []) zp151 rfl rfl (Nat.succ_pos _) rfl rfl (Nat.le_of_ble_eq_true rfl) (Nat.le_of_ble_eq_true rfl) rfl rfl h (fun x2 H1 h => ?_)
    exact g_ret zp151 rfl rfl ⟨_, rfl, h⟩
  · replace h := h.2
    have hh : l3 = 0 ∨ l3 = 1 ∨ l3 = 2 ∨ l3 = 3 ∨ l3 = 4 := by omega
    rcases hh with c | c | c | c | c
    · replace h := h.1 c
      refine g_tabE (z := 0) zp151 rfl c (by decide) rfl ?_
      refine g_al zp151 rfl rfl rfl (by decide) ?_
      refine g_il zp151 rfl rfl rfl ?_
      refine g_if zp151 rfl rfl zc0 (fun c3 => ?_) (fun c3 => ?_)
      · replace h := h.1 c3
        refine g_ic zp151 rfl rfl ?_
        refine g_callI (as := [zR 32, zI 0]) (rest := []) zp151 rfl rfl (Nat.succ_pos _) rfl rfl (Nat.le_of_ble_eq_true rfl) (Nat.le_of_ble_eq_true rfl) rfl rfl h (fun x5 H4 h => ?_)
        refine g_i2l zp151 rfl rfl ?_
        exact g_ret zp151 rfl rfl ⟨_, rfl, h⟩
      · replace h := h.2 c3
        refine g_ic zp151 rfl rfl ?_
        refine g_goto zp151 rfl ?_
        refine g_callI (as := [zR 32, zI 1]) (rest := []) zp151 rfl rfl (Nat.succ_pos _) rfl rfl (Nat.le_of_ble_eq_true rfl) (Nat.le_of_ble_eq_true rfl) rfl rfl h (fun x7 H6 h => ?_)
        refine g_i2l zp151 rfl rfl ?_
        exact g_ret zp151 rfl rfl ⟨_, rfl, h⟩
    · replace h := h.2.1 c
      refine g_tabE (z := 1) zp151 rfl c (by decide) rfl ?_
      refine g_al zp151 rfl rfl rfl (by decide) ?_
      refine g_il zp151 rfl rfl rfl ?_
      refine g_callI (as := [zR 32, zI l5]) (rest := []) zp151 rfl rfl (Nat.succ_pos _) rfl rfl (Nat.le_of_ble_eq_true rfl) (Nat.le_of_ble_eq_true rfl) rfl rfl h (fun x9 H8 h => ?_)
      refine g_i2l zp151 rfl rfl ?_
      exact g_ret zp151 rfl rfl ⟨_, rfl, h⟩
    · replace h := h.2.2.1 c
      refine g_tabE (z := 2) zp151 rfl c (by decide) rfl ?_
      refine g_al zp151 rfl rfl rfl (by decide) ?_
      refine g_il zp151 rfl rfl rfl ?_
      refine g_callI (as := [zR 32, zI l6]) (rest := []) zp151 rfl rfl (Nat.succ_pos _) rfl rfl (Nat.le_of_ble_eq_true rfl) (Nat.le_of_ble_eq_true rfl) rfl rfl h (fun x11 H10 h => ?_)
      refine g_i2l zp151 rfl rfl ?_
      exact g_ret zp151 rfl rfl ⟨_, rfl, h⟩
    · replace h := h.2.2.2.1 c
      refine g_tabE (z := 3) zp151 rfl c (by decide) rfl ?_
      refine g_al zp151 rfl rfl rfl (by decide) ?_
      refine g_il zp151 rfl rfl rfl ?_
      refine g_callI (as := [zR 32, zI l7]) (rest := []) zp151 rfl rfl (Nat.succ_pos _) rfl rfl (Nat.le_of_ble_eq_true rfl) (Nat.le_of_ble_eq_true rfl) rfl rfl h (fun x13 H12 h => ?_)
      refine g_i2l zp151 rfl rfl ?_
      exact g_ret zp151 rfl rfl ⟨_, rfl, h⟩
    · replace h := h.2.2.2.2 c
      refine g_tabE (z := 4) zp151 rfl c (by decide) rfl ?_
      refine g_al zp151 rfl rfl rfl (by decide) ?_
      refine g_il zp151 rfl rfl rfl ?_
      refine g_i2l zp151 rfl rfl ?_
      refine g_il zp151 rfl rfl rfl ?_
      refine g_lsh zp151 rfl rfl ?_
      refine g_il zp151 rfl rfl rfl ?_
      refine g_i2l zp151 rfl rfl ?_
      refine g_lar (r := w64 ((zshlL l5 l1) * l6)) zp151 rfl rfl rfl ?_
      refine g_callL (as := [zR 32, zL (w64 ((zshlL l5 l1) * l6))]) (rest := []) zp151 rfl rfl (Nat.succ_pos _) rfl rfl (Nat.le_of_ble_eq_true rfl) (Nat.le_of_ble_eq_true rfl) rfl rfl h (fun x15 H14 h => ?_)
      exact g_ret zp151 rfl rfl ⟨_, rfl, h⟩
theorem zp152 : zprog.getD 152 [] = zk152 := rfl
theorem x152_0 {w : zWt} {d : Nat} {H : zHt} {K : Int → zHt → Prop} {l1 : Int}
    (h : zclI w d 43 [zI l1] H (fun x2 H1 => (¬ x2 = 0 → ((H1 40 1) < 6 → zclV w d 153 [zR 32] H1 (fun H5 => zclV w d 34 [zR 40, zI l1] H5 (fun H7 => zclV w d 38 [zR 32] H7 (fun H9 => zclI w d 39 [zR 32, zI (w32 ((H9 40 1) - 1))] H9 (fun x12 H11 => K x12 H11))))) ∧ (6 ≤ (H1 40 1) → zclI w d 13 [zR 32, zI 3] H1 (fun x14 H13 => K x14 H13))) ∧ (x2 = 0 → zclI w d 13 [zR 32, zI 1] H1 (fun x16 H15 => K x16 H15)))) :
    zclI w (d + 1) 152 [zR 32, zI l1] H K := by
  show zgo w (d + 1) 152 0 [zR 32, zI l1] [] H (zQI K)
  refine g_il zp152 rfl rfl rfl ?_
  refine g_callI (as := [zI l1]) (rest := []) zp152 rfl rfl (Nat.succ_pos _) rfl rfl (Nat.le_of_ble_eq_true rfl) (Nat.le_of_ble_eq_true rfl) rfl rfl h (fun x2 H1 h => ?_)
  refine g_if zp152 rfl rfl zc1 (fun c3 => ?_) (fun c3 => ?_)
  · replace h := h.1 c3
    refine g_al zp152 rfl rfl rfl (by decide) ?_
    refine g_get (v := zR 40) zp152 rfl rfl rfl ⟨rfl, by decide, (by decide)⟩ rfl ?_
    refine g_get (v := zI (H1 40 1)) zp152 rfl rfl rfl ⟨rfl, by decide, (by decide)⟩ rfl ?_
    refine g_ic zp152 rfl rfl ?_
    refine g_icmp zp152 rfl rfl zc2 (fun c4 => ?_) (fun c4 => ?_)
    · replace h := h.1 c4
      refine g_al zp152 rfl rfl rfl (by decide) ?_
      refine g_callV (as := [zR 32]) (rest := []) zp152 rfl rfl (Nat.succ_pos _) rfl rfl (Nat.le_of_ble_eq_true rfl) (Nat.le_of_ble_eq_true rfl) rfl rfl h (fun H5 h => ?_)
      refine g_al zp152 rfl rfl rfl (by decide) ?_
      refine g_get (v := zR 40) zp152 rfl rfl rfl ⟨rfl, by decide, (by decide)⟩ rfl ?_
      refine g_il zp152 rfl rfl rfl ?_
      refine g_callV (as := [zR 40, zI l1]) (rest := []) zp152 rfl rfl (Nat.succ_pos _) rfl rfl (Nat.le_of_ble_eq_true rfl) (Nat.le_of_ble_eq_true rfl) rfl rfl h (fun H7 h => ?_)
      refine g_al zp152 rfl rfl rfl (by decide) ?_
      refine g_callV (as := [zR 32]) (rest := []) zp152 rfl rfl (Nat.succ_pos _) rfl rfl (Nat.le_of_ble_eq_true rfl) (Nat.le_of_ble_eq_true rfl) rfl rfl h (fun H9 h => ?_)
      refine g_al zp152 rfl rfl rfl (by decide) ?_
      refine g_al zp152 rfl rfl rfl (by decide) ?_
      refine g_get (v := zR 40) zp152 rfl rfl rfl ⟨rfl, by decide, (by decide)⟩ rfl ?_
      refine g_get (v := zI (H9 40 1)) zp152 rfl rfl rfl ⟨rfl, by decide, (by decide)⟩ rfl ?_
      refine g_ic zp152 rfl rfl ?_
      refine g_ar (r := w32 ((H9 40 1) - 1)) zp152 rfl rfl rfl ?_
      refine g_callI (as := [zR 32, zI (w32 ((H9 40 1) - 1))]) (rest := []) zp152 rfl rfl (Nat.succ_pos _) rfl rfl (Nat.le_of_ble_eq_true rfl) (Nat.le_of_ble_eq_true rfl) rfl rfl h (fun x12 H11 h => ?_)
      exact g_ret zp152 rfl rfl ⟨_, rfl, h⟩
    · replace h := h.2 c4
      refine g_al zp152 rfl rfl rfl (by decide) ?_
      refine g_ic zp152 rfl rfl ?_
      refine g_callI (as := [zR 32, zI 3]) (rest := []) zp152 rfl rfl (Nat.succ_pos _) rfl rfl (Nat.le_of_ble_eq_true rfl) (Nat.le_of_ble_eq_true rfl) rfl rfl h (fun x14 H13 h => ?_)
      exact g_ret zp152 rfl rfl ⟨_, rfl, h⟩
  · replace h := h.2 c3
    refine g_al zp152 rfl rfl rfl (by decide) ?_
    refine g_ic zp152 rfl rfl ?_
    refine g_callI (as := [zR 32, zI 1]) (rest := []) zp152 rfl rfl (Nat.succ_pos _) rfl rfl (Nat.le_of_ble_eq_true rfl) (Nat.le_of_ble_eq_true rfl) rfl rfl h (fun x16 H15 h => ?_)
    exact g_ret zp152 rfl rfl ⟨_, rfl, h⟩
theorem zp153 : zprog.getD 153 [] = zk153 := rfl
theorem x153_0 {w : zWt} {d : Nat} {H : zHt} {K : zHt → Prop} 
    (h : ((H 32 11) < 8 → (0 ≤ (H 32 11) ∧ (H 32 11) < 8) ∧ (zisD (H 44 (H 32 11))) ∧ zclV w d 37 [zR (H 44 (H 32 11)), zR 40] H (fun H4 => K (zup H4 32 11 (w32 ((H4 32 11) + 1))))) ∧ (8 ≤ (H 32 11) → zclV w d 154 [zR 32] H (fun H6 => (0 ≤ (H6 32 11) ∧ (H6 32 11) < 8) ∧ (zisD (H6 44 (H6 32 11))) ∧ zclV w d 37 [zR (H6 44 (H6 32 11)), zR 40] H6 (fun H10 => K (zup H10 32 11 (w32 ((H10 32 11) + 1))))))) :
    zclV w (d + 1) 153 [zR 32] H K := by
  show zgo w (d + 1) 153 0 [zR 32] [] H (zQV K)
  refine g_al zp153 rfl rfl rfl (by decide) ?_
  refine g_get (v := zI (H 32 11)) zp153 rfl rfl rfl ⟨rfl, by decide, (by decide)⟩ rfl ?_
  refine g_al zp153 rfl rfl rfl (by decide) ?_
  refine g_get (v := zR 44) zp153 rfl rfl rfl ⟨rfl, by decide, (by decide)⟩ rfl ?_
  refine g_len zp153 rfl rfl rfl (by decide) ?_
  refine g_icmp zp153 rfl rfl zc2 (fun c1 => ?_) (fun c1 => ?_)
  · replace h := h.1 c1
    refine g_al zp153 rfl rfl rfl (by decide) ?_
    refine g_get (v := zR 44) zp153 rfl rfl rfl ⟨rfl, by decide, (by decide)⟩ rfl ?_
    refine g_al zp153 rfl rfl rfl (by decide) ?_
    refine g_get (v := zI (H 32 11)) zp153 rfl rfl rfl ⟨rfl, by decide, (by decide)⟩ rfl ?_
    obtain ⟨c2, h⟩ := h
    obtain ⟨c3, h⟩ := h
    refine g_ald (v := zR (H 44 (H 32 11))) zp153 rfl rfl rfl rfl c2 rfl ?_
    refine g_al zp153 rfl rfl rfl (by decide) ?_
    refine g_get (v := zR 40) zp153 rfl rfl rfl ⟨rfl, by decide, (by decide)⟩ rfl ?_
    refine g_callV (as := [zR (H 44 (H 32 11)), zR 40]) (rest := []) zp153 rfl rfl (Nat.succ_pos _) rfl rfl (Nat.le_of_ble_eq_true rfl) (Nat.le_of_ble_eq_true rfl) (zrecv_of (zD_sh c3) rfl) rfl h (fun H4 h => ?_)
    refine g_al zp153 rfl rfl rfl (by decide) ?_
    refine g_dup zp153 rfl rfl rfl ?_
    refine g_get (v := zI (H4 32 11)) zp153 rfl rfl rfl ⟨rfl, by decide, (by decide)⟩ rfl ?_
    refine g_ic zp153 rfl rfl ?_
    refine g_ar (r := w32 ((H4 32 11) + 1)) zp153 rfl rfl rfl ?_
    refine g_putI zp153 rfl rfl rfl ⟨rfl, by decide, (by decide)⟩ rfl rfl ?_
    exact g_ret zp153 rfl rfl ⟨rfl, h⟩
  · replace h := h.2 c1
    refine g_al zp153 rfl rfl rfl (by decide) ?_
    refine g_callV (as := [zR 32]) (rest := []) zp153 rfl rfl (Nat.succ_pos _) rfl rfl (Nat.le_of_ble_eq_true rfl) (Nat.le_of_ble_eq_true rfl) rfl rfl h (fun H6 h => ?_)
    refine g_al zp153 rfl rfl rfl (by decide) ?_
    refine g_get (v := zR 44) zp153 rfl rfl rfl ⟨rfl, by decide, (by decide)⟩ rfl ?_
    refine g_al zp153 rfl rfl rfl (by decide) ?_
    refine g_get (v := zI (H6 32 11)) zp153 rfl rfl rfl ⟨rfl, by decide, (by decide)⟩ rfl ?_
    obtain ⟨c8, h⟩ := h
    obtain ⟨c9, h⟩ := h
    refine g_ald (v := zR (H6 44 (H6 32 11))) zp153 rfl rfl rfl rfl c8 rfl ?_
    refine g_al zp153 rfl rfl rfl (by decide) ?_
    refine g_get (v := zR 40) zp153 rfl rfl rfl ⟨rfl, by decide, (by decide)⟩ rfl ?_
    refine g_callV (as := [zR (H6 44 (H6 32 11)), zR 40]) (rest := []) zp153 rfl rfl (Nat.succ_pos _) rfl rfl (Nat.le_of_ble_eq_true rfl) (Nat.le_of_ble_eq_true rfl) (zrecv_of (zD_sh c9) rfl) rfl h (fun H10 h => ?_)
    refine g_al zp153 rfl rfl rfl (by decide) ?_
    refine g_dup zp153 rfl rfl rfl ?_
    refine g_get (v := zI (H10 32 11)) zp153 rfl rfl rfl ⟨rfl, by decide, (by decide)⟩ rfl ?_
    refine g_ic zp153 rfl rfl ?_
    refine g_ar (r := w32 ((H10 32 11) + 1)) zp153 rfl rfl rfl ?_
    refine g_putI zp153 rfl rfl rfl ⟨rfl, by decide, (by decide)⟩ rfl rfl ?_
    exact g_ret zp153 rfl rfl ⟨rfl, h⟩
theorem zp154 : zprog.getD 154 [] = zk154 := rfl
theorem x154_0 {w : zWt} {d : Nat} {H : zHt} {K : zHt → Prop} 
    (h : (zisD (H 44 0)) ∧ zgo w d 154 9 [zR 32, zR (H 44 0), zI 1] [] H (zQV K)) :
    zclV w d 154 [zR 32] H K := by
  show zgo w d 154 0 [zR 32, zJ, zJ] [] H (zQV K)
  refine g_al zp154 rfl rfl rfl (by decide) ?_
  refine g_get (v := zR 44) zp154 rfl rfl rfl ⟨rfl, by decide, (by decide)⟩ rfl ?_
  refine g_ic zp154 rfl rfl ?_
  obtain ⟨c1, h⟩ := h
  refine g_ald (v := zR (H 44 0)) zp154 rfl rfl rfl rfl (by decide) rfl ?_
  refine g_as (ls' := [zR 32, zR (H 44 0), zJ]) zp154 rfl rfl (Nat.le_of_ble_eq_true rfl) (Int.le_trans (by decide) (zD_ge c1)) rfl ?_
  refine g_ic zp154 rfl rfl ?_
  refine g_is (ls' := [zR 32, zR (H 44 0), zI 1]) zp154 rfl rfl (Nat.le_of_ble_eq_true rfl) rfl ?_
  exact g_weak (ls' := [zR 32, zR (H 44 0), zI 1]) ⟨Or.inr rfl, Or.inr rfl, Or.inr rfl, trivial⟩ h
theorem x154_9 {w : zWt} {d : Nat} {H : zHt} {K : zHt → Prop} {l1 : Int} (hl1 : zisD l1) {l2 : Int}
    (h : (8 ≤ l2 → (0 ≤ (w32 (8 - 1)) ∧ (w32 (8 - 1)) < 8) ∧ K (zup (zup H 44 (w32 (8 - 1)) l1) 32 11 (w32 (8 - 1)))) ∧ (l2 < 8 → (0 ≤ l2 ∧ l2 < 8) ∧ (zisD (H 44 l2)) ∧ (0 ≤ (w32 (l2 - 1)) ∧ (w32 (l2 - 1)) < 8) ∧ zgo w d 154 9 [zR 32, zR l1, zI (w32 (l2 + 1))] [] (zup H 44 (w32 (l2 - 1)) (H 44 l2)) (zQV K))) :
    zgo w d 154 9 [zR 32, zR l1, zI l2] [] H (zQV K) := by
  refine g_il zp154 rfl rfl rfl ?_
  refine g_al zp154 rfl rfl rfl (by decide) ?_
  refine g_get (v := zR 44) zp154 rfl rfl rfl ⟨rfl, by decide, (by decide)⟩ rfl ?_
  refine g_len zp154 rfl rfl rfl (by decide) ?_
  refine g_icmp zp154 rfl rfl zc3 (fun c1 => ?_) (fun c1 => ?_)
  · replace h := h.1 c1
    refine g_al zp154 rfl rfl rfl (by decide) ?_
    refine g_get (v := zR 44) zp154 rfl rfl rfl ⟨rfl, by decide, (by decide)⟩ rfl ?_
    refine g_al zp154 rfl rfl rfl (by decide) ?_
    refine g_get (v := zR 44) zp154 rfl rfl rfl ⟨rfl, by decide, (by decide)⟩ rfl ?_
    refine g_len zp154 rfl rfl rfl (by decide) ?_
    refine g_ic zp154 rfl rfl ?_
    refine g_ar (r := w32 (8 - 1)) zp154 rfl rfl rfl ?_
    refine g_al zp154 rfl rfl rfl (Int.le_trans (by decide) (zD_ge hl1)) ?_
    obtain ⟨c2, h⟩ := h
    refine g_aast zp154 rfl rfl rfl (zD_sh hl1) (by decide) (zD_ge hl1) rfl c2 ?_
    refine g_al zp154 rfl rfl rfl (by decide) ?_
    refine g_al zp154 rfl rfl rfl (by decide) ?_
    refine g_get (v := zR 44) zp154 rfl rfl rfl ⟨rfl, by decide, (by decide)⟩ rfl ?_
    refine g_len zp154 rfl rfl rfl (by decide) ?_
    refine g_ic zp154 rfl rfl ?_
    refine g_ar (r := w32 (8 - 1)) zp154 rfl rfl rfl ?_
    refine g_putI zp154 rfl rfl rfl ⟨rfl, by decide, (by decide)⟩ rfl rfl ?_
    exact g_ret zp154 rfl rfl ⟨rfl, h⟩
  · replace h := h.2 c1
    refine g_al zp154 rfl rfl rfl (by decide) ?_
    refine g_get (v := zR 44) zp154 rfl rfl rfl ⟨rfl, by decide, (by decide)⟩ rfl ?_
    refine g_il zp154 rfl rfl rfl ?_
    refine g_ic zp154 rfl rfl ?_
    refine g_ar (r := w32 (l2 - 1)) zp154 rfl rfl rfl ?_
    refine g_al zp154 rfl rfl rfl (by decide) ?_
    refine g_get (v := zR 44) zp154 rfl rfl rfl ⟨rfl, by decide, (by decide)⟩ rfl ?_
    refine g_il zp154 rfl rfl rfl ?_
    obtain ⟨c3, h⟩ := h
    obtain ⟨c4, h⟩ := h
    refine g_ald (v := zR (H 44 l2)) zp154 rfl rfl rfl rfl c3 rfl ?_
    obtain ⟨c5, h⟩ := h
    refine g_aast zp154 rfl rfl rfl (zD_sh c4) (by decide) (zD_ge c4) rfl c5 ?_
    refine g_inc (ls' := [zR 32, zR l1, zI (w32 (l2 + 1))]) zp154 rfl rfl rfl rfl ?_
    refine g_goto zp154 rfl ?_
    exact g_weak (ls' := [zR 32, zR l1, zI (w32 (l2 + 1))]) ⟨Or.inr rfl, Or.inr rfl, Or.inr rfl, trivial⟩ h
theorem zp155 : zprog.getD 155 [] = zk155 := rfl
theorem x155_0 {w : zWt} {d : Nat} {H : zHt} {K : Int → zHt → Prop} {l1 : Int} {l2 : Int}
    (h : zclI w d 43 [zI l2] H (fun x2 H1 => (¬ x2 = 0 → zclI w d 106 [zR 32, zI l1] H1 (fun x5 H4 => (¬ x5 = 0 → (0 ≤ l1 ∧ l1 < 6) ∧ (¬ (H4 41 l1) = l2 → zclV w d 156 [zR 32, zI l1, zI l2] H4 (fun H9 => zclI w d 39 [zR 32, zI (H4 41 l1)] H9 (fun x12 H11 => K x12 H11))) ∧ ((H4 41 l1) = l2 → zclI w d 13 [zR 32, zI 4] H4 (fun x14 H13 => K x14 H13))) ∧ (x5 = 0 → zclI w d 13 [zR 32, zI 2] H4 (fun x16 H15 => K x16 H15)))) ∧ (x2 = 0 → zclI w d 13 [zR 32, zI 1] H1 (fun x18 H17 => K x18 H17)))) :
    zclI w (d + 1) 155 [zR 32, zI l1, zI l2] H K := by
  show zgo w (d + 1) 155 0 [zR 32, zI l1, zI l2, zJ] [] H (zQI K)
  refine g_il zp155 rfl rfl rfl ?_
  refine g_callI (as := [zI l2]) (rest := []) zp155 rfl rfl (Nat.succ_pos _) rfl rfl (Nat.le_of_ble_eq_true rfl) (Nat.le_of_ble_eq_true rfl) rfl rfl h (fun x2 H1 h => ?_)
  refine g_if zp155 rfl rfl zc1 (fun c3 => ?_) (fun c3 => ?_)
  · replace h := h.1 c3
    refine g_al zp155 rfl rfl rfl (by decide) ?_
    refine g_il zp155 rfl rfl rfl ?_
    refine g_callI (as := [zR 32, zI l1]) (rest := []) zp155 rfl rfl (Nat.succ_pos _) rfl rfl (Nat.le_of_ble_eq_true rfl) (Nat.le_of_ble_eq_true rfl) rfl rfl h (fun x5 H4 h => ?_)
    refine g_if zp155 rfl rfl zc1 (fun c6 => ?_) (fun c6 => ?_)
    · replace h := h.1 c6
      refine g_al zp155 rfl rfl rfl (by decide) ?_
      refine g_get (v := zR 40) zp155 rfl rfl rfl ⟨rfl, by decide, (by decide)⟩ rfl ?_
      refine g_get (v := zR 41) zp155 rfl rfl rfl ⟨rfl, by decide, (by decide)⟩ rfl ?_
      refine g_il zp155 rfl rfl rfl ?_
      obtain ⟨c7, h⟩ := h
      refine g_ald (v := zI (H4 41 l1)) zp155 rfl rfl rfl rfl c7 rfl ?_
      refine g_is (ls' := [zR 32, zI l1, zI l2, zI (H4 41 l1)]) zp155 rfl rfl (Nat.le_of_ble_eq_true rfl) rfl ?_
      refine g_il zp155 rfl rfl rfl ?_
      refine g_il zp155 rfl rfl rfl ?_
      refine g_icmp zp155 rfl rfl zc1 (fun c8 => ?_) (fun c8 => ?_)
      · replace h := h.1 c8
        refine g_al zp155 rfl rfl rfl (by decide) ?_
        refine g_il zp155 rfl rfl rfl ?_
        refine g_il zp155 rfl rfl rfl ?_
        refine g_callV (as := [zR 32, zI l1, zI l2]) (rest := []) zp155 rfl rfl (Nat.succ_pos _) rfl rfl (Nat.le_of_ble_eq_true rfl) (Nat.le_of_ble_eq_true rfl) rfl rfl h (fun H9 h => ?_)
        refine g_al zp155 rfl rfl rfl (by decide) ?_
        refine g_il zp155 rfl rfl rfl ?_
        refine g_callI (as := [zR 32, zI (H4 41 l1)]) (rest := []) zp155 rfl rfl (Nat.succ_pos _) rfl rfl (Nat.le_of_ble_eq_true rfl) (Nat.le_of_ble_eq_true rfl) rfl rfl h (fun x12 H11 h => ?_)
        exact g_ret zp155 rfl rfl ⟨_, rfl, h⟩
      · replace h := h.2 c8
        refine g_al zp155 rfl rfl rfl (by decide) ?_
        refine g_ic zp155 rfl rfl ?_
        refine g_callI (as := [zR 32, zI 4]) (rest := []) zp155 rfl rfl (Nat.succ_pos _) rfl rfl (Nat.le_of_ble_eq_true rfl) (Nat.le_of_ble_eq_true rfl) rfl rfl h (fun x14 H13 h => ?_)
        exact g_ret zp155 rfl rfl ⟨_, rfl, h⟩
    · replace h := h.2 c6
      refine g_al zp155 rfl rfl rfl (by decide) ?_
      refine g_ic zp155 rfl rfl ?_
      refine g_callI (as := [zR 32, zI 2]) (rest := []) zp155 rfl rfl (Nat.succ_pos _) rfl rfl (Nat.le_of_ble_eq_true rfl) (Nat.le_of_ble_eq_true rfl) rfl rfl h (fun x16 H15 h => ?_)
      exact g_ret zp155 rfl rfl ⟨_, rfl, h⟩
  · replace h := h.2 c3
    refine g_al zp155 rfl rfl rfl (by decide) ?_
    refine g_ic zp155 rfl rfl ?_
    refine g_callI (as := [zR 32, zI 1]) (rest := []) zp155 rfl rfl (Nat.succ_pos _) rfl rfl (Nat.le_of_ble_eq_true rfl) (Nat.le_of_ble_eq_true rfl) rfl rfl h (fun x18 H17 h => ?_)
    exact g_ret zp155 rfl rfl ⟨_, rfl, h⟩
theorem zp156 : zprog.getD 156 [] = zk156 := rfl
theorem x156_0 {w : zWt} {d : Nat} {H : zHt} {K : zHt → Prop} {l1 : Int} {l2 : Int}
    (h : zclV w d 153 [zR 32] H (fun H1 => (0 ≤ l1 ∧ l1 < 6) ∧ zclV w d 38 [zR 32] (zup H1 41 l1 l2) (fun H4 => K H4))) :
    zclV w (d + 1) 156 [zR 32, zI l1, zI l2] H K := by
  show zgo w (d + 1) 156 0 [zR 32, zI l1, zI l2] [] H (zQV K)
  refine g_al zp156 rfl rfl rfl (by decide) ?_
  refine g_callV (as := [zR 32]) (rest := []) zp156 rfl rfl (Nat.succ_pos _) rfl rfl (Nat.le_of_ble_eq_true rfl) (Nat.le_of_ble_eq_true rfl) rfl rfl h (fun H1 h => ?_)
  refine g_al zp156 rfl rfl rfl (by decide) ?_
  refine g_get (v := zR 40) zp156 rfl rfl rfl ⟨rfl, by decide, (by decide)⟩ rfl ?_
  refine g_get (v := zR 41) zp156 rfl rfl rfl ⟨rfl, by decide, (by decide)⟩ rfl ?_
  refine g_il zp156 rfl rfl rfl ?_
  refine g_il zp156 rfl rfl rfl ?_
  obtain ⟨c3, h⟩ := h
  refine g_iast zp156 rfl rfl rfl (by decide) rfl c3 ?_
  refine g_al zp156 rfl rfl rfl (by decide) ?_
  refine g_callV (as := [zR 32]) (rest := []) zp156 rfl rfl (Nat.succ_pos _) rfl rfl (Nat.le_of_ble_eq_true rfl) (Nat.le_of_ble_eq_true rfl) rfl rfl h (fun H4 h => ?_)
  exact g_ret zp156 rfl rfl ⟨rfl, h⟩
theorem zp157 : zprog.getD 157 [] = zk157 := rfl
theorem x157_0 {w : zWt} {d : Nat} {H : zHt} {K : Int → zHt → Prop} {l1 : Int}
    (h : zclI w d 106 [zR 32, zI l1] H (fun x2 H1 => (¬ x2 = 0 → zclV w d 153 [zR 32] H1 (fun H4 => zclV w d 158 [zR 40, zI l1] H4 (fun H6 => zclV w d 38 [zR 32] H6 (fun H8 => zclI w d 39 [zR 32, zI (H8 40 1)] H8 (fun x11 H10 => K x11 H10))))) ∧ (x2 = 0 → zclI w d 13 [zR 32, zI 2] H1 (fun x13 H12 => K x13 H12)))) :
    zclI w (d + 1) 157 [zR 32, zI l1] H K := by
  show zgo w (d + 1) 157 0 [zR 32, zI l1] [] H (zQI K)
  refine g_al zp157 rfl rfl rfl (by decide) ?_
  refine g_il zp157 rfl rfl rfl ?_
  refine g_callI (as := [zR 32, zI l1]) (rest := []) zp157 rfl rfl (Nat.succ_pos _) rfl rfl (Nat.le_of_ble_eq_true rfl) (Nat.le_of_ble_eq_true rfl) rfl rfl h (fun x2 H1 h => ?_)
  refine g_if zp157 rfl rfl zc1 (fun c3 => ?_) (fun c3 => ?_)
  · replace h := h.1 c3
    refine g_al zp157 rfl rfl rfl (by decide) ?_
    refine g_callV (as := [zR 32]) (rest := []) zp157 rfl rfl (Nat.succ_pos _) rfl rfl (Nat.le_of_ble_eq_true rfl) (Nat.le_of_ble_eq_true rfl) rfl rfl h (fun H4 h => ?_)
    refine g_al zp157 rfl rfl rfl (by decide) ?_
    refine g_get (v := zR 40) zp157 rfl rfl rfl ⟨rfl, by decide, (by decide)⟩ rfl ?_
    refine g_il zp157 rfl rfl rfl ?_
    refine g_callV (as := [zR 40, zI l1]) (rest := []) zp157 rfl rfl (Nat.succ_pos _) rfl rfl (Nat.le_of_ble_eq_true rfl) (Nat.le_of_ble_eq_true rfl) rfl rfl h (fun H6 h => ?_)
    refine g_al zp157 rfl rfl rfl (by decide) ?_
    refine g_callV (as := [zR 32]) (rest := []) zp157 rfl rfl (Nat.succ_pos _) rfl rfl (Nat.le_of_ble_eq_true rfl) (Nat.le_of_ble_eq_true rfl) rfl rfl h (fun H8 h => ?_)
    refine g_al zp157 rfl rfl rfl (by decide) ?_
    refine g_al zp157 rfl rfl rfl (by decide) ?_
    refine g_get (v := zR 40) zp157 rfl rfl rfl ⟨rfl, by decide, (by decide)⟩ rfl ?_
    refine g_get (v := zI (H8 40 1)) zp157 rfl rfl rfl ⟨rfl, by decide, (by decide)⟩ rfl ?_
    refine g_callI (as := [zR 32, zI (H8 40 1)]) (rest := []) zp157 rfl rfl (Nat.succ_pos _) rfl rfl (Nat.le_of_ble_eq_true rfl) (Nat.le_of_ble_eq_true rfl) rfl rfl h (fun x11 H10 h => ?_)
    exact g_ret zp157 rfl rfl ⟨_, rfl, h⟩
  · replace h := h.2 c3
    refine g_al zp157 rfl rfl rfl (by decide) ?_
    refine g_ic zp157 rfl rfl ?_
    refine g_callI (as := [zR 32, zI 2]) (rest := []) zp157 rfl rfl (Nat.succ_pos _) rfl rfl (Nat.le_of_ble_eq_true rfl) (Nat.le_of_ble_eq_true rfl) rfl rfl h (fun x13 H12 h => ?_)
    exact g_ret zp157 rfl rfl ⟨_, rfl, h⟩
theorem zp158 : zprog.getD 158 [] = zk158 := rfl
theorem x158_0 {w : zWt} {d : Nat} {H : zHt} {K : zHt → Prop} {l0 : Int} (hl0 : zisD l0) {l1 : Int}
    (h : zgo w d 158 4 [zR l0, zJ, zI (w32 (l1 + 1))] [] H (zQV K)) :
    zclV w d 158 [zR l0, zI l1] H K := by
  show zgo w d 158 0 [zR l0, zI l1, zJ] [] H (zQV K)
  refine g_il zp158 rfl rfl rfl ?_
  refine g_ic zp158 rfl rfl ?_
  refine g_ar (r := w32 (l1 + 1)) zp158 rfl rfl rfl ?_
  refine g_is (ls' := [zR l0, zI l1, zI (w32 (l1 + 1))]) zp158 rfl rfl (Nat.le_of_ble_eq_true rfl) rfl ?_
  exact g_weak (ls' := [zR l0, zJ, zI (w32 (l1 + 1))]) ⟨Or.inr rfl, Or.inl rfl, Or.inr rfl, trivial⟩ h
theorem x158_4 {w : zWt} {d : Nat} {H : zHt} {K : zHt → Prop} {l0 : Int} (hl0 : zisD l0) {l2 : Int}
    (h : ((H l0 1) ≤ l2 → K (zup H l0 1 (w32 ((H l0 1) - 1)))) ∧ (l2 < (H l0 1) → (6 ≤ l2 → K (zup H l0 1 (w32 ((H l0 1) - 1)))) ∧ (l2 < 6 → (0 ≤ l2 ∧ l2 < 6) ∧ (0 ≤ (w32 (l2 - 1)) ∧ (w32 (l2 - 1)) < 6) ∧ zgo w d 158 4 [zR l0, zJ, zI (w32 (l2 + 1))] [] (zup H (l0 + 1) (w32 (l2 - 1)) (H (l0 + 1) l2)) (zQV K)))) :
    zgo w d 158 4 [zR l0, zJ, zI l2] [] H (zQV K) := by
  refine g_il zp158 rfl rfl rfl ?_
  refine g_al zp158 rfl rfl rfl (Int.le_trans (by decide) (zD_ge hl0)) ?_
  refine g_get (v := zI (H l0 1)) zp158 rfl rfl (zD_sh hl0) ⟨rfl, by decide, (zD_ge hl0)⟩ (congrArg (ztag _) (zM_no (zD_ge hl0) (zD_fx hl0 1 (by decide)))) ?_
  refine g_icmp zp158 rfl rfl zc3 (fun c1 => ?_) (fun c1 => ?_)
  · replace h := h.1 c1
    refine g_al zp158 rfl rfl rfl (Int.le_trans (by decide) (zD_ge hl0)) ?_
    refine g_dup zp158 rfl rfl rfl ?_
    refine g_get (v := zI (H l0 1)) zp158 rfl rfl (zD_sh hl0) ⟨rfl, by decide, (zD_ge hl0)⟩ (congrArg (ztag _) (zM_no (zD_ge hl0) (zD_fx hl0 1 (by decide)))) ?_
    refine g_ic zp158 rfl rfl ?_
    refine g_ar (r := w32 ((H l0 1) - 1)) zp158 rfl rfl rfl ?_
    refine g_putI zp158 rfl rfl (zD_sh hl0) ⟨rfl, by decide, (zD_ge hl0)⟩ (zD_fx hl0 1 (by decide)) rfl ?_
    exact g_ret zp158 rfl rfl ⟨rfl, h⟩
  · replace h := h.2 c1
    refine g_il zp158 rfl rfl rfl ?_
    refine g_al zp158 rfl rfl rfl (Int.le_trans (by decide) (zD_ge hl0)) ?_
    refine g_get (v := zR (l0 + 1)) zp158 rfl rfl (zD_sh hl0) ⟨rfl, by decide, (zD_ge hl0)⟩ (congrArg (ztag _) (zD_f0 hl0)) ?_
    refine g_len zp158 rfl rfl (zD_sh1 hl0) (by decide) ?_
    refine g_icmp zp158 rfl rfl zc3 (fun c2 => ?_) (fun c2 => ?_)
    · replace h := h.1 c2
      refine g_al zp158 rfl rfl rfl (Int.le_trans (by decide) (zD_ge hl0)) ?_
      refine g_dup zp158 rfl rfl rfl ?_
      refine g_get (v := zI (H l0 1)) zp158 rfl rfl (zD_sh hl0) ⟨rfl, by decide, (zD_ge hl0)⟩ (congrArg (ztag _) (zM_no (zD_ge hl0) (zD_fx hl0 1 (by decide)))) ?_
      refine g_ic zp158 rfl rfl ?_
      refine g_ar (r := w32 ((H l0 1) - 1)) zp158 rfl rfl rfl ?_
      refine g_putI zp158 rfl rfl (zD_sh hl0) ⟨rfl, by decide, (zD_ge hl0)⟩ (zD_fx hl0 1 (by decide)) rfl ?_
      exact g_ret zp158 rfl rfl ⟨rfl, h⟩
    · replace h := h.2 c2
      refine g_al zp158 rfl rfl rfl (Int.le_trans (by decide) (zD_ge hl0)) ?_
      refine g_get (v := zR (l0 + 1)) zp158 rfl rfl (zD_sh hl0) ⟨rfl, by decide, (zD_ge hl0)⟩ (congrArg (ztag _) (zD_f0 hl0)) ?_
      refine g_il zp158 rfl rfl rfl ?_
      refine g_ic zp158 rfl rfl ?_
      refine g_ar (r := w32 (l2 - 1)) zp158 rfl rfl rfl ?_
      refine g_al zp158 rfl rfl rfl (Int.le_trans (by decide) (zD_ge hl0)) ?_
      refine g_get (v := zR (l0 + 1)) zp158 rfl rfl (zD_sh hl0) ⟨rfl, by decide, (zD_ge hl0)⟩ (congrArg (ztag _) (zD_f0 hl0)) ?_
      refine g_il zp158 rfl rfl rfl ?_
      obtain ⟨c3, h⟩ := h
      refine g_ald (v := zI (H (l0 + 1) l2)) zp158 rfl rfl (zD_sh1 hl0) rfl c3 (congrArg (ztag _) (zM_no (zD_ge1 hl0) (zD_fx1 hl0 _))) ?_
      obtain ⟨c4, h⟩ := h
      refine g_iast zp158 rfl rfl (zD_sh1 hl0) (zD_ge1 hl0) (zD_fx1 hl0 _) c4 ?_
      refine g_inc (ls' := [zR l0, zJ, zI (w32 (l2 + 1))]) zp158 rfl rfl rfl rfl ?_
      refine g_goto zp158 rfl ?_
      exact g_weak (ls' := [zR l0, zJ, zI (w32 (l2 + 1))]) ⟨Or.inr rfl, Or.inr rfl, Or.inr rfl, trivial⟩ h
theorem zp159 : zprog.getD 159 [] = zk159 := rfl
theorem x159_0 {w : zWt} {d : Nat} {H : zHt} {K : Int → zHt → Prop} {l1 : Int}
    (h : zclI w d 106 [zR 32, zI l1] H (fun x2 H1 => (¬ x2 = 0 → zclR w d 108 [zR 32, zI l1] H1 (fun x5 H4 => (zisW x5) ∧ ((H4 x5 1) < 2 → zclI w d 13 [zR 32, zI 5] H4 (fun x8 H7 => K x8 H7)) ∧ (2 ≤ (H4 x5 1) → (¬ (H4 (x5 + 1) 1) = 0 → zclV w d 156 [zR 32, zI l1, zI (H4 (x5 + 1) 1)] H4 (fun H10 => zclI w d 39 [zR 32, zI (H4 (x5 + 1) 1)] H10 (fun x13 H12 => K x13 H12))) ∧ ((H4 (x5 + 1) 1) = 0 → zclI w d 13 [zR 32, zI 5] H4 (fun x15 H14 => K x15 H14))))) ∧ (x2 = 0 → zclI w d 13 [zR 32, zI 2] H1 (fun x17 H16 => K x17 H16)))) :
    zclI w (d + 1) 159 [zR 32, zI l1] H K := by
  show zgo w (d + 1) 159 0 [zR 32, zI l1, zJ, zJ] [] H (zQI K)
  refine g_al zp159 rfl rfl rfl (by decide) ?_
  refine g_il zp159 rfl rfl rfl ?_
  refine g_callI (as := [zR 32, zI l1]) (rest := []) zp159 rfl rfl (Nat.succ_pos _) rfl rfl (Nat.le_of_ble_eq_true rfl) (Nat.le_of_ble_eq_true rfl) rfl rfl h (fun x2 H1 h => ?_)
  refine g_if zp159 rfl rfl zc1 (fun c3 => ?_) (fun c3 => ?_)
  · replace h := h.1 c3
    refine g_al zp159 rfl rfl rfl (by decide) ?_
    refine g_il zp159 rfl rfl rfl ?_
    refine g_callR (as := [zR 32, zI l1]) (rest := []) zp159 rfl rfl (Nat.succ_pos _) rfl rfl (Nat.le_of_ble_eq_true rfl) (Nat.le_of_ble_eq_true rfl) rfl rfl h (fun x5 H4 h => ?_)
    obtain ⟨fx5, h⟩ := h
    refine g_as (ls' := [zR 32, zI l1, zR x5, zJ]) zp159 rfl rfl (Nat.le_of_ble_eq_true rfl) (Int.le_trans (by decide) (zW_ge fx5)) rfl ?_
    refine g_al zp159 rfl rfl rfl (Int.le_trans (by decide) (zW_ge fx5)) ?_
    refine g_get (v := zI (H4 x5 1)) zp159 rfl rfl (zW_sh fx5) ⟨rfl, by decide, (zW_ge fx5)⟩ (congrArg (ztag _) (zM_no (zW_ge fx5) (zW_fx fx5 1 (by decide)))) ?_
    refine g_ic zp159 rfl rfl ?_
    refine g_icmp zp159 rfl rfl zc2 (fun c6 => ?_) (fun c6 => ?_)
    · replace h := h.1 c6
      refine g_al zp159 rfl rfl rfl (by decide) ?_
      refine g_ic zp159 rfl rfl ?_
      refine g_callI (as := [zR 32, zI 5]) (rest := []) zp159 rfl rfl (Nat.succ_pos _) rfl rfl (Nat.le_of_ble_eq_true rfl) (Nat.le_of_ble_eq_true rfl) rfl rfl h (fun x8 H7 h => ?_)
      exact g_ret zp159 rfl rfl ⟨_, rfl, h⟩
    · replace h := h.2 c6
      refine g_al zp159 rfl rfl rfl (Int.le_trans (by decide) (zW_ge fx5)) ?_
      refine g_get (v := zR (x5 + 1)) zp159 rfl rfl (zW_sh fx5) ⟨rfl, by decide, (zW_ge fx5)⟩ (congrArg (ztag _) (zW_f0 fx5)) ?_
      refine g_ic zp159 rfl rfl ?_
      refine g_ald (v := zI (H4 (x5 + 1) 1)) zp159 rfl rfl (zW_sh1 fx5) rfl (by decide) (congrArg (ztag _) (zM_no (zW_ge1 fx5) (zW_fx1 fx5 _))) ?_
      refine g_if zp159 rfl rfl zc1 (fun c9 => ?_) (fun c9 => ?_)
      · replace h := h.1 c9
        refine g_al zp159 rfl rfl rfl (Int.le_trans (by decide) (zW_ge fx5)) ?_
        refine g_get (v := zR (x5 + 1)) zp159 rfl rfl (zW_sh fx5) ⟨rfl, by decide, (zW_ge fx5)⟩ (congrArg (ztag _) (zW_f0 fx5)) ?_
        refine g_ic zp159 rfl rfl ?_
        refine g_ald (v := zI (H4 (x5 + 1) 1)) zp159 rfl rfl (zW_sh1 fx5) rfl (by decide) (congrArg (ztag _) (zM_no (zW_ge1 fx5) (zW_fx1 fx5 _))) ?_
        refine g_is (ls' := [zR 32, zI l1, zR x5, zI (H4 (x5 + 1) 1)]) zp159 rfl rfl (Nat.le_of_ble_eq_true rfl) rfl ?_
        refine g_al zp159 rfl rfl rfl (by decide) ?_
        refine g_il zp159 rfl rfl rfl ?_
        refine g_il zp159 rfl rfl rfl ?_
        refine g_callV (as := [zR 32, zI l1, zI (H4 (x5 + 1) 1)]) (rest := []) zp159 rfl rfl (Nat.succ_pos _) rfl rfl (Nat.le_of_ble_eq_true rfl) (Nat.le_of_ble_eq_true rfl) rfl rfl h (fun H10 h => ?_)
        refine g_al zp159 rfl rfl rfl (by decide) ?_
        refine g_il zp159 rfl rfl rfl ?_
        refine g_callI (as := [zR 32, zI (H4 (x5 + 1) 1)]) (rest := []) zp159 rfl rfl (Nat.succ_pos _) rfl rfl (Nat.le_of_ble_eq_true rfl) (Nat.le_of_ble_eq_true rfl) rfl rfl h (fun x13 H12 h => ?_)
        exact g_ret zp159 rfl rfl ⟨_, rfl, h⟩
      · replace h := h.2 c9
        refine g_al zp159 rfl rfl rfl (by decide) ?_
        refine g_ic zp159 rfl rfl ?_
        refine g_callI (as := [zR 32, zI 5]) (rest := []) zp159 rfl rfl (Nat.succ_pos _) rfl rfl (Nat.le_of_ble_eq_true rfl) (Nat.le_of_ble_eq_true rfl) rfl rfl h (fun x15 H14 h => ?_)
        exact g_ret zp159 rfl rfl ⟨_, rfl, h⟩
  · replace h := h.2 c3
    refine g_al zp159 rfl rfl rfl (by decide) ?_
    refine g_ic zp159 rfl rfl ?_
    refine g_callI (as := [zR 32, zI 2]) (rest := []) zp159 rfl rfl (Nat.succ_pos _) rfl rfl (Nat.le_of_ble_eq_true rfl) (Nat.le_of_ble_eq_true rfl) rfl rfl h (fun x17 H16 h => ?_)
    exact g_ret zp159 rfl rfl ⟨_, rfl, h⟩
theorem zp160 : zprog.getD 160 [] = zk160 := rfl
theorem x160_0 {w : zWt} {d : Nat} {H : zHt} {K : Int → zHt → Prop} {l1 : Int} {l2 : Int}
    (h : zclI w d 106 [zR 32, zI l1] H (fun x2 H1 => (x2 = 0 → zclI w d 13 [zR 32, zI 2] H1 (fun x5 H4 => K x5 H4)) ∧ (¬ x2 = 0 → zclI w d 106 [zR 32, zI l2] H1 (fun x7 H6 => (¬ x7 = 0 → (¬ l1 = l2 → zclV w d 153 [zR 32] H6 (fun H10 => (0 ≤ l1 ∧ l1 < 6) ∧ (0 ≤ l2 ∧ l2 < 6) ∧ zclV w d 38 [zR 32] (zup (zup H10 41 l1 (H10 41 l2)) 41 l2 (H10 41 l1)) (fun H14 => zclR w d 108 [zR 32, zI l1] H14 (fun x17 H16 => (zisW x17) ∧ zclI w d 39 [zR 32, zI (H16 x17 1)] H16 (fun x19 H18 => K x19 H18))))) ∧ (l1 = l2 → zclI w d 13 [zR 32, zI 4] H6 (fun x21 H20 => K x21 H20))) ∧ (x7 = 0 → zclI w d 13 [zR 32, zI 2] H6 (fun x23 H22 => K x23 H22)))))) :
    zclI w (d + 1) 160 [zR 32, zI l1, zI l2] H K := by
  show zgo w (d + 1) 160 0 [zR 32, zI l1, zI l2, zJ] [] H (zQI K)
  refine g_al zp160 rfl rfl rfl (by decide) ?_
  refine g_il zp160 rfl rfl rfl ?_
  refine g_callI (as := [zR 32, zI l1]) (rest := []) zp160 rfl rfl (Nat.succ_pos _) rfl rfl (Nat.le_of_ble_eq_true rfl) (Nat.le_of_ble_eq_true rfl) rfl rfl h (fun x2 H1 h => ?_)
  refine g_if zp160 rfl rfl zc0 (fun c3 => ?_) (fun c3 => ?_)
  · replace h := h.1 c3
    refine g_al zp160 rfl rfl rfl (by decide) ?_
    refine g_ic zp160 rfl rfl ?_
    refine g_callI (as := [zR 32, zI 2]) (rest := []) zp160 rfl rfl (Nat.succ_pos _) rfl rfl (Nat.le_of_ble_eq_true rfl) (Nat.le_of_ble_eq_true rfl) rfl rfl h (fun x5 H4 h => ?_)
    exact g_ret zp160 rfl rfl ⟨_, rfl, h⟩
  · replace h := h.2 c3
    refine g_al zp160 rfl rfl rfl (by decide) ?_
    refine g_il zp160 rfl rfl rfl ?_
    refine g_callI (as := [zR 32, zI l2]) (rest := []) zp160 rfl rfl (Nat.succ_pos _) rfl rfl (Nat.le_of_ble_eq_true rfl) (Nat.le_of_ble_eq_true rfl) rfl rfl h (fun x7 H6 h => ?_)
    refine g_if zp160 rfl rfl zc1 (fun c8 => ?_) (fun c8 => ?_)
    · replace h := h.1 c8
      refine g_il zp160 rfl rfl rfl ?_
      refine g_il zp160 rfl rfl rfl ?_
      refine g_icmp zp160 rfl rfl zc1 (fun c9 => ?_) (fun c9 => ?_)
      · replace h := h.1 c9
        refine g_al zp160 rfl rfl rfl (by decide) ?_
        refine g_callV (as := [zR 32]) (rest := []) zp160 rfl rfl (Nat.succ_pos _) rfl rfl (Nat.le_of_ble_eq_true rfl) (Nat.le_of_ble_eq_true rfl) rfl rfl h (fun H10 h => ?_)
        refine g_al zp160 rfl rfl rfl (by decide) ?_
        refine g_get (v := zR 40) zp160 rfl rfl rfl ⟨rfl, by decide, (by decide)⟩ rfl ?_
        refine g_get (v := zR 41) zp160 rfl rfl rfl ⟨rfl, by decide, (by decide)⟩ rfl ?_
        refine g_il zp160 rfl rfl rfl ?_
        obtain ⟨c12, h⟩ := h
        refine g_ald (v := zI (H10 41 l1)) zp160 rfl rfl rfl rfl c12 rfl ?_
        refine g_is (ls' := [zR 32, zI l1, zI l2, zI (H10 41 l1)]) zp160 rfl rfl (Nat.le_of_ble_eq_true rfl) rfl ?_
        refine g_al zp160 rfl rfl rfl (by decide) ?_
        refine g_get (v := zR 40) zp160 rfl rfl rfl ⟨rfl, by decide, (by decide)⟩ rfl ?_
        refine g_get (v := zR 41) zp160 rfl rfl rfl ⟨rfl, by decide, (by decide)⟩ rfl ?_
        refine g_il zp160 rfl rfl rfl ?_
        refine g_al zp160 rfl rfl rfl (by decide) ?_
        refine g_get (v := zR 40) zp160 rfl rfl rfl ⟨rfl, by decide, (by decide)⟩ rfl ?_
        refine g_get (v := zR 41) zp160 rfl rfl rfl ⟨rfl, by decide, (by decide)⟩ rfl ?_
        refine g_il zp160 rfl rfl rfl ?_
        obtain ⟨c13, h⟩ := h
        refine g_ald (v := zI (H10 41 l2)) zp160 rfl rfl rfl rfl c13 rfl ?_
        refine g_iast zp160 rfl rfl rfl (by decide) rfl c12 ?_
        refine g_al zp160 rfl rfl rfl (by decide) ?_
        refine g_get (v := zR 40) zp160 rfl rfl rfl ⟨rfl, by decide, (by decide)⟩ rfl ?_
        refine g_get (v := zR 41) zp160 rfl rfl rfl ⟨rfl, by decide, (by decide)⟩ rfl ?_
        refine g_il zp160 rfl rfl rfl ?_
        refine g_il zp160 rfl rfl rfl ?_
        refine g_iast zp160 rfl rfl rfl (by decide) rfl c13 ?_
        refine g_al zp160 rfl rfl rfl (by decide) ?_
        refine g_callV (as := [zR 32]) (rest := []) zp160 rfl rfl (Nat.succ_pos _) rfl rfl (Nat.le_of_ble_eq_true rfl) (Nat.le_of_ble_eq_true rfl) rfl rfl h (fun H14 h => ?_)
        refine g_al zp160 rfl rfl rfl (by decide) ?_
        refine g_al zp160 rfl rfl rfl (by decide) ?_
        refine g_il zp160 rfl rfl rfl ?_
        refine g_callR (as := [zR 32, zI l1]) (rest := [zR 32]) zp160 rfl rfl (Nat.succ_pos _) rfl rfl (Nat.le_of_ble_eq_true rfl) (Nat.le_of_ble_eq_true rfl) rfl rfl h (fun x17 H16 h => ?_)
        obtain ⟨fx17, h⟩ := h
        refine g_get (v := zI (H16 x17 1)) zp160 rfl rfl (zW_sh fx17) ⟨rfl, by decide, (zW_ge fx17)⟩ (congrArg (ztag _) (zM_no (zW_ge fx17) (zW_fx fx17 1 (by decide)))) ?_
        refine g_callI (as := [zR 32, zI (H16 x17 1)]) (rest := []) zp160 rfl rfl (Nat.succ_pos _) rfl rfl (Nat.le_of_ble_eq_true rfl) (Nat.le_of_ble_eq_true rfl) rfl rfl h (fun x19 H18 h => ?_)
        exact g_ret zp160 rfl rfl ⟨_, rfl, h⟩
      · replace h := h.2 c9
        refine g_al zp160 rfl rfl rfl (by decide) ?_
        refine g_ic zp160 rfl rfl ?_
        refine g_callI (as := [zR 32, zI 4]) (rest := []) zp160 rfl rfl (Nat.succ_pos _) rfl rfl (Nat.le_of_ble_eq_true rfl) (Nat.le_of_ble_eq_true rfl) rfl rfl h (fun x21 H20 h => ?_)
        exact g_ret zp160 rfl rfl ⟨_, rfl, h⟩
    · replace h := h.2 c8
      refine g_al zp160 rfl rfl rfl (by decide) ?_
      refine g_ic zp160 rfl rfl ?_
      refine g_callI (as := [zR 32, zI 2]) (rest := []) zp160 rfl rfl (Nat.succ_pos _) rfl rfl (Nat.le_of_ble_eq_true rfl) (Nat.le_of_ble_eq_true rfl) rfl rfl h (fun x23 H22 h => ?_)
      exact g_ret zp160 rfl rfl ⟨_, rfl, h⟩
theorem zp161 : zprog.getD 161 [] = zk161 := rfl
theorem x161_0 {w : zWt} {d : Nat} {H : zHt} {K : Int → zHt → Prop} {l1 : Int} {l2 : Int}
    (h : zclI w d 44 [zI l1, zI 2] H (fun x2 H1 => (x2 = 0 → zclI w d 13 [zR 32, zI 1] H1 (fun x5 H4 => K x5 H4)) ∧ (¬ x2 = 0 → zclI w d 162 [zI l1, zI l2] H1 (fun x7 H6 => (¬ x7 = 0 → (¬ l1 = 0 → (¬ l1 = 1 → zgo w (d + 1) 161 58 [zR 32, zI l1, zI l2, zJ] [zI (H6 40 4)] H6 (zQI K)) ∧ (l1 = 1 → zgo w (d + 1) 161 58 [zR 32, zI l1, zI l2, zJ] [zI (H6 40 3)] H6 (zQI K))) ∧ (l1 = 0 → zgo w (d + 1) 161 58 [zR 32, zI l1, zI l2, zJ] [zI (H6 40 2)] H6 (zQI K))) ∧ (x7 = 0 → zclI w d 13 [zR 32, zI 1] H6 (fun x12 H11 => K x12 H11)))))) :
    zclI w (d + 1) 161 [zR 32, zI l1, zI l2] H K := by
  show zgo w (d + 1) 161 0 [zR 32, zI l1, zI l2, zJ] [] H (zQI K)
  refine g_il zp161 rfl rfl rfl ?_
  refine g_ic zp161 rfl rfl ?_
  refine g_callI (as := [zI l1, zI 2]) (rest := []) zp161 rfl rfl (Nat.succ_pos _) rfl rfl (Nat.le_of_ble_eq_true rfl) (Nat.le_of_ble_eq_true rfl) rfl rfl h (fun x2 H1 h => ?_)
  refine g_if zp161 rfl rfl zc0 (fun c3 => ?_) (fun c3 => ?_)
  · replace h := h.1 c3
    refine g_al zp161 rfl rfl rfl (by decide) ?_
    refine g_ic zp161 rfl rfl ?_
    refine g_callI (as := [zR 32, zI 1]) (rest := []) zp161 rfl rfl (Nat.succ_pos _) rfl rfl (Nat.le_of_ble_eq_true rfl) (Nat.le_of_ble_eq_true rfl) rfl rfl h (fun x5 H4 h => ?_)
    exact g_ret zp161 rfl rfl ⟨_, rfl, h⟩
  · replace h := h.2 c3
    refine g_il zp161 rfl rfl rfl ?_
    refine g_il zp161 rfl rfl rfl ?_
    refine g_callI (as := [zI l1, zI l2]) (rest := []) zp161 rfl rfl (Nat.succ_pos _) rfl rfl (Nat.le_of_ble_eq_true rfl) (Nat.le_of_ble_eq_true rfl) rfl rfl h (fun x7 H6 h => ?_)
    refine g_if zp161 rfl rfl zc1 (fun c8 => ?_) (fun c8 => ?_)
    · replace h := h.1 c8
      refine g_il zp161 rfl rfl rfl ?_
      refine g_if zp161 rfl rfl zc1 (fun c9 => ?_) (fun c9 => ?_)
      · replace h := h.1 c9
        refine g_il zp161 rfl rfl rfl ?_
        refine g_ic zp161 rfl rfl ?_
        refine g_icmp zp161 rfl rfl zc1 (fun c10 => ?_) (fun c10 => ?_)
        · replace h := h.1 c10
          refine g_al zp161 rfl rfl rfl (by decide) ?_
          refine g_get (v := zR 40) zp161 rfl rfl rfl ⟨rfl, by decide, (by decide)⟩ rfl ?_
          refine g_get (v := zI (H6 40 4)) zp161 rfl rfl rfl ⟨rfl, by decide, (by decide)⟩ rfl ?_
          exact g_weak (ls' := [zR 32, zI l1, zI l2, zJ]) ⟨Or.inr rfl, Or.inr rfl, Or.inr rfl, Or.inr rfl, trivial⟩ h
        · replace h := h.2 c10
          refine g_al zp161 rfl rfl rfl (by decide) ?_
          refine g_get (v := zR 40) zp161 rfl rfl rfl ⟨rfl, by decide, (by decide)⟩ rfl ?_
          refine g_get (v := zI (H6 40 3)) zp161 rfl rfl rfl ⟨rfl, by decide, (by decide)⟩ rfl ?_
          refine g_goto zp161 rfl ?_
          exact g_weak (ls' := [zR 32, zI l1, zI l2, zJ]) ⟨Or.inr rfl, Or.inr rfl, Or.inr rfl, Or.inr rfl, trivial⟩ h
      · replace h := h.2 c9
        refine g_al zp161 rfl rfl rfl (by decide) ?_
        refine g_get (v := zR 40) zp161 rfl rfl rfl ⟨rfl, by decide, (by decide)⟩ rfl ?_
        refine g_get (v := zI (H6 40 2)) zp161 rfl rfl rfl ⟨rfl, by decide, (by decide)⟩ rfl ?_
        refine g_goto zp161 rfl ?_
        exact g_weak (ls' := [zR 32, zI l1, zI l2, zJ]) ⟨Or.inr rfl, Or.inr rfl, Or.inr rfl, Or.inr rfl, trivial⟩ h
    · replace h := h.2 c8
      refine g_al zp161 rfl rfl rfl (by decide) ?_
      refine g_ic zp161 rfl rfl ?_
      refine g_callI (as := [zR 32, zI 1]) (rest := []) zp161 rfl rfl (Nat.succ_pos _) rfl rfl (Nat.le_of_ble_eq_true rfl) (Nat.le_of_ble_eq_true rfl) rfl rfl h (fun x12 H11 h => ?_)
      exact g_ret zp161 rfl rfl ⟨_, rfl, h⟩
theorem x161_58 {w : zWt} {d : Nat} {H : zHt} {K : Int → zHt → Prop} {l1 : Int} {l2 : Int} {s0 : Int}
    (h : (¬ s0 = l2 → zclV w d 153 [zR 32] H (fun H2 => (¬ l1 = 0 → (¬ l1 = 1 → zclV w d 38 [zR 32] (zup H2 40 4 l2) (fun H6 => zclI w d 39 [zR 32, zI s0] H6 (fun x9 H8 => K x9 H8))) ∧ (l1 = 1 → zclV w d 38 [zR 32] (zup H2 40 3 l2) (fun H10 => zclI w d 39 [zR 32, zI s0] H10 (fun x13 H12 => K x13 H12)))) ∧ (l1 = 0 → zclV w d 38 [zR 32] (zup H2 40 2 l2) (fun H14 => zclI w d 39 [zR 32, zI s0] H14 (fun x17 H16 => K x17 H16))))) ∧ (s0 = l2 → zclI w d 13 [zR 32, zI 4] H (fun x19 H18 => K x19 H18))) :
    zgo w (d + 1) 161 58 [zR 32, zI l1, zI l2, zJ] [zI s0] H (zQI K) := by
  refine g_is (ls' := [zR 32, zI l1, zI l2, zI s0]) zp161 rfl rfl (Nat.le_of_ble_eq_true rfl) rfl ?_
  refine g_il zp161 rfl rfl rfl ?_
  refine g_il zp161 rfl rfl rfl ?_
  refine g_icmp zp161 rfl rfl zc1 (fun c1 => ?_) (fun c1 => ?_)
  · replace h := h.1 c1
    refine g_al zp161 rfl rfl rfl (by decide) ?_
    refine g_callV (as := [zR 32]) (rest := []) zp161 rfl rfl (Nat.succ_pos _) rfl rfl (Nat.le_of_ble_eq_true rfl) (Nat.le_of_ble_eq_true rfl) rfl rfl h (fun H2 h => ?_)
    refine g_il zp161 rfl rfl rfl ?_
    refine g_if zp161 rfl rfl zc1 (fun c4 => ?_) (fun c4 => ?_)
    · replace h := h.1 c4
      refine g_il zp161 rfl rfl rfl ?_
      refine g_ic zp161 rfl rfl ?_
      refine g_icmp zp161 rfl rfl zc1 (fun c5 => ?_) (fun c5 => ?_)
      · replace h := h.1 c5
        refine g_al zp161 rfl rfl rfl (by decide) ?_
        refine g_get (v := zR 40) zp161 rfl rfl rfl ⟨rfl, by decide, (by decide)⟩ rfl ?_
        refine g_il zp161 rfl rfl rfl ?_
        refine g_putI zp161 rfl rfl rfl ⟨rfl, by decide, (by decide)⟩ rfl rfl ?_
        refine g_al zp161 rfl rfl rfl (by decide) ?_
        refine g_callV (as := [zR 32]) (rest := []) zp161 rfl rfl (Nat.succ_pos _) rfl rfl (Nat.le_of_ble_eq_true rfl) (Nat.le_of_ble_eq_true rfl) rfl rfl h (fun H6 h => ?_)
        refine g_al zp161 rfl rfl rfl (by decide) ?_
        refine g_il zp161 rfl rfl rfl ?_
        refine g_callI (as := [zR 32, zI s0]) (rest := []) zp161 rfl rfl (Nat.succ_pos _) rfl rfl (Nat.le_of_ble_eq_true rfl) (Nat.le_of_ble_eq_true rfl) rfl rfl h (fun x9 H8 h => ?_)
        exact g_ret zp161 rfl rfl ⟨_, rfl, h⟩
      · replace h := h.2 c5
        refine g_al zp161 rfl rfl rfl (by decide) ?_
        refine g_get (v := zR 40) zp161 rfl rfl rfl ⟨rfl, by decide, (by decide)⟩ rfl ?_
        refine g_il zp161 rfl rfl rfl ?_
        refine g_putI zp161 rfl rfl rfl ⟨rfl, by decide, (by decide)⟩ rfl rfl ?_
        refine g_goto zp161 rfl ?_
        refine g_al zp161 rfl rfl rfl (by decide) ?_
        refine g_callV (as := [zR 32]) (rest := []) zp161 rfl rfl (Nat.succ_pos _) rfl rfl (Nat.le_of_ble_eq_true rfl) (Nat.le_of_ble_eq_true rfl) rfl rfl h (fun H10 h => ?_)
        refine g_al zp161 rfl rfl rfl (by decide) ?_
        refine g_il zp161 rfl rfl rfl ?_
        refine g_callI (as := [zR 32, zI s0]) (rest := []) zp161 rfl rfl (Nat.succ_pos _) rfl rfl (Nat.le_of_ble_eq_true rfl) (Nat.le_of_ble_eq_true rfl) rfl rfl h (fun x13 H12 h => ?_)
        exact g_ret zp161 rfl rfl ⟨_, rfl, h⟩
    · replace h := h.2 c4
      refine g_al zp161 rfl rfl rfl (by decide) ?_
      refine g_get (v := zR 40) zp161 rfl rfl rfl ⟨rfl, by decide, (by decide)⟩ rfl ?_
      refine g_il zp161 rfl rfl rfl ?_
      refine g_putI zp161 rfl rfl rfl ⟨rfl, by decide, (by decide)⟩ rfl rfl ?_
      refine g_goto zp161 rfl ?_
      refine g_al zp161 rfl rfl rfl (by decide) ?_
      refine g_callV (as := [zR 32]) (rest := []) zp161 rfl rfl (Nat.succ_pos _) rfl rfl (Nat.le_of_ble_eq_true rfl) (Nat.le_of_ble_eq_true rfl) rfl rfl h (fun H14 h => ?_)
      refine g_al zp161 rfl rfl rfl (by decide) ?_
      refine g_il zp161 rfl rfl rfl ?_
      refine g_callI (as := [zR 32, zI s0]) (rest := []) zp161 rfl rfl (Nat.succ_pos _) rfl rfl (Nat.le_of_ble_eq_true rfl) (Nat.le_of_ble_eq_true rfl) rfl rfl h (fun x17 H16 h => ?_)
      exact g_ret zp161 rfl rfl ⟨_, rfl, h⟩
  · replace h := h.2 c1
    refine g_al zp161 rfl rfl rfl (by decide) ?_
    refine g_ic zp161 rfl rfl ?_
    refine g_callI (as := [zR 32, zI 4]) (rest := []) zp161 rfl rfl (Nat.succ_pos _) rfl rfl (Nat.le_of_ble_eq_true rfl) (Nat.le_of_ble_eq_true rfl) rfl rfl h (fun x19 H18 h => ?_)
    exact g_ret zp161 rfl rfl ⟨_, rfl, h⟩
theorem zp162 : zprog.getD 162 [] = zk162 := rfl
theorem x162_0 {w : zWt} {d : Nat} {H : zHt} {K : Int → zHt → Prop} {l0 : Int} {l1 : Int}
    (h : (¬ l0 = 0 → (¬ l0 = 1 → zclI w d 44 [zI l1, zI 3] H (fun x4 H3 => (x4 = 0 ∨ x4 = 1) ∧ K x4 H3)) ∧ (l0 = 1 → (l1 < 1 → K 0 H) ∧ (1 ≤ l1 → (100 < l1 → K 0 H) ∧ (l1 ≤ 100 → K 1 H)))) ∧ (l0 = 0 → zclI w d 43 [zI l1] H (fun x9 H8 => (x9 = 0 ∨ x9 = 1) ∧ K x9 H8))) :
    zclI w (d + 1) 162 [zI l0, zI l1] H K := by
  show zgo w (d + 1) 162 0 [zI l0, zI l1] [] H (zQI K)
  refine g_il zp162 rfl rfl rfl ?_
  refine g_if zp162 rfl rfl zc1 (fun c1 => ?_) (fun c1 => ?_)
  · replace h := h.1 c1
    refine g_il zp162 rfl rfl rfl ?_
    refine g_ic zp162 rfl rfl ?_
    refine g_icmp zp162 rfl rfl zc1 (fun c2 => ?_) (fun c2 => ?_)
    · replace h := h.1 c2
      refine g_il zp162 rfl rfl rfl ?_
      refine g_ic zp162 rfl rfl ?_
      refine g_callI (as := [zI l1, zI 3]) (rest := []) zp162 rfl rfl (Nat.succ_pos _) rfl rfl (Nat.le_of_ble_eq_true rfl) (Nat.le_of_ble_eq_true rfl) rfl rfl h (fun x4 H3 h => ?_)
      obtain ⟨c5, h⟩ := h
      exact g_ret zp162 rfl (zret_b c5) ⟨_, rfl, h⟩
    · replace h := h.2 c2
      refine g_il zp162 rfl rfl rfl ?_
      refine g_ic zp162 rfl rfl ?_
      refine g_icmp zp162 rfl rfl zc2 (fun c6 => ?_) (fun c6 => ?_)
      · replace h := h.1 c6
        refine g_ic zp162 rfl rfl ?_
        refine g_goto zp162 rfl ?_
        exact g_ret zp162 rfl (zret_b (by decide)) ⟨_, rfl, h⟩
      · replace h := h.2 c6
        refine g_il zp162 rfl rfl rfl ?_
        refine g_ic zp162 rfl rfl ?_
        refine g_icmp zp162 rfl rfl zc4 (fun c7 => ?_) (fun c7 => ?_)
        · replace h := h.1 c7
          refine g_ic zp162 rfl rfl ?_
          refine g_goto zp162 rfl ?_
          exact g_ret zp162 rfl (zret_b (by decide)) ⟨_, rfl, h⟩
        · replace h := h.2 c7
          refine g_ic zp162 rfl rfl ?_
          refine g_goto zp162 rfl ?_
          exact g_ret zp162 rfl (zret_b (by decide)) ⟨_, rfl, h⟩
  · replace h := h.2 c1
    refine g_il zp162 rfl rfl rfl ?_
    refine g_callI (as := [zI l1]) (rest := []) zp162 rfl rfl (Nat.succ_pos _) rfl rfl (Nat.le_of_ble_eq_true rfl) (Nat.le_of_ble_eq_true rfl) rfl rfl h (fun x9 H8 h => ?_)
    obtain ⟨c10, h⟩ := h
    exact g_ret zp162 rfl (zret_b c10) ⟨_, rfl, h⟩
theorem zp163 : zprog.getD 163 [] = zk163 := rfl
theorem x163_0 {w : zWt} {d : Nat} {H : zHt} {K : Int → zHt → Prop} {l1 : Int}
    (h : zclI w d 106 [zR 32, zI l1] H (fun x2 H1 => (¬ x2 = 0 → zclR w d 108 [zR 32, zI l1] H1 (fun x5 H4 => (zisW x5) ∧ zclV w d 164 [zR 48, zR x5, zR 36] H4 (fun H6 => zclI w d 39 [zR 32, zI (H6 48 1)] H6 (fun x9 H8 => K x9 H8)))) ∧ (x2 = 0 → zclI w d 13 [zR 32, zI 2] H1 (fun x11 H10 => K x11 H10)))) :
    zclI w (d + 1) 163 [zR 32, zI l1] H K := by
  show zgo w (d + 1) 163 0 [zR 32, zI l1] [] H (zQI K)
  refine g_al zp163 rfl rfl rfl (by decide) ?_
  refine g_il zp163 rfl rfl rfl ?_
  refine g_callI (as := [zR 32, zI l1]) (rest := []) zp163 rfl rfl (Nat.succ_pos _) rfl rfl (Nat.le_of_ble_eq_true rfl) (Nat.le_of_ble_eq_true rfl) rfl rfl h (fun x2 H1 h => ?_)
  refine g_if zp163 rfl rfl zc1 (fun c3 => ?_) (fun c3 => ?_)
  · replace h := h.1 c3
    refine g_al zp163 rfl rfl rfl (by decide) ?_
    refine g_get (v := zR 48) zp163 rfl rfl rfl ⟨rfl, by decide, (by decide)⟩ rfl ?_
    refine g_al zp163 rfl rfl rfl (by decide) ?_
    refine g_il zp163 rfl rfl rfl ?_
    refine g_callR (as := [zR 32, zI l1]) (rest := [zR 48]) zp163 rfl rfl (Nat.succ_pos _) rfl rfl (Nat.le_of_ble_eq_true rfl) (Nat.le_of_ble_eq_true rfl) rfl rfl h (fun x5 H4 h => ?_)
    obtain ⟨fx5, h⟩ := h
    refine g_al zp163 rfl rfl rfl (by decide) ?_
    refine g_get (v := zR 36) zp163 rfl rfl rfl ⟨rfl, by decide, (by decide)⟩ rfl ?_
    refine g_callV (as := [zR 48, zR x5, zR 36]) (rest := []) zp163 rfl rfl (Nat.succ_pos _) rfl rfl (Nat.le_of_ble_eq_true rfl) (Nat.le_of_ble_eq_true rfl) rfl rfl h (fun H6 h => ?_)
    refine g_al zp163 rfl rfl rfl (by decide) ?_
    refine g_al zp163 rfl rfl rfl (by decide) ?_
    refine g_get (v := zR 48) zp163 rfl rfl rfl ⟨rfl, by decide, (by decide)⟩ rfl ?_
    refine g_get (v := zI (H6 48 1)) zp163 rfl rfl rfl ⟨rfl, by decide, (by decide)⟩ rfl ?_
    refine g_callI (as := [zR 32, zI (H6 48 1)]) (rest := []) zp163 rfl rfl (Nat.succ_pos _) rfl rfl (Nat.le_of_ble_eq_true rfl) (Nat.le_of_ble_eq_true rfl) rfl rfl h (fun x9 H8 h => ?_)
    exact g_ret zp163 rfl rfl ⟨_, rfl, h⟩
  · replace h := h.2 c3
    refine g_al zp163 rfl rfl rfl (by decide) ?_
    refine g_ic zp163 rfl rfl ?_
    refine g_callI (as := [zR 32, zI 2]) (rest := []) zp163 rfl rfl (Nat.succ_pos _) rfl rfl (Nat.le_of_ble_eq_true rfl) (Nat.le_of_ble_eq_true rfl) rfl rfl h (fun x11 H10 h => ?_)
    exact g_ret zp163 rfl rfl ⟨_, rfl, h⟩
theorem zp164 : zprog.getD 164 [] = zk164 := rfl
theorem x164_0 {w : zWt} {d : Nat} {H : zHt} {K : zHt → Prop} {l1 : Int} (hl1 : zisW l1)
    (h : zgo w (d + 1) 164 7 [zR 48, zR l1, zR 36, zI 0] [] (zup H 48 1 0) (zQV K)) :
    zclV w (d + 1) 164 [zR 48, zR l1, zR 36] H K := by
  show zgo w (d + 1) 164 0 [zR 48, zR l1, zR 36, zJ] [] H (zQV K)
  refine g_al zp164 rfl rfl rfl (by decide) ?_
  refine g_ic zp164 rfl rfl ?_
  refine g_putI zp164 rfl rfl rfl ⟨rfl, by decide, (by decide)⟩ rfl rfl ?_
  refine g_ic zp164 rfl rfl ?_
  refine g_is (ls' := [zR 48, zR l1, zR 36, zI 0]) zp164 rfl rfl (Nat.le_of_ble_eq_true rfl) rfl ?_
  exact g_weak (ls' := [zR 48, zR l1, zR 36, zI 0]) ⟨Or.inr rfl, Or.inr rfl, Or.inr rfl, Or.inr rfl, trivial⟩ h
theorem x164_7 {w : zWt} {d : Nat} {H : zHt} {K : zHt → Prop} {l1 : Int} (hl1 : zisW l1) {l3 : Int}
    (h : ((H l1 1) ≤ l3 → K H) ∧ (l3 < (H l1 1) → (l3 ≤ 0 → (0 ≤ l3 ∧ l3 < 101) ∧ zclV w d 166 [zR 48, zI (H (l1 + 1) l3), zR 36] H (fun H4 => zgo w (d + 1) 164 7 [zR 48, zR l1, zR 36, zI (w32 (l3 + 1))] [] H4 (zQV K))) ∧ (0 < l3 → zclV w d 165 [zR 48, zI 32] H (fun H6 => (0 ≤ l3 ∧ l3 < 101) ∧ zclV w d 166 [zR 48, zI (H6 (l1 + 1) l3), zR 36] H6 (fun H9 => zgo w (d + 1) 164 7 [zR 48, zR l1, zR 36, zI (w32 (l3 + 1))] [] H9 (zQV K)))))) :
    zgo w (d + 1) 164 7 [zR 48, zR l1, zR 36, zI l3] [] H (zQV K) := by
  refine g_il zp164 rfl rfl rfl ?_
  refine g_al zp164 rfl rfl rfl (Int.le_trans (by decide) (zW_ge hl1)) ?_
  refine g_get (v := zI (H l1 1)) zp164 rfl rfl (zW_sh hl1) ⟨rfl, by decide, (zW_ge hl1)⟩ (congrArg (ztag _) (zM_no (zW_ge hl1) (zW_fx hl1 1 (by decide)))) ?_
  refine g_icmp zp164 rfl rfl zc3 (fun c1 => ?_) (fun c1 => ?_)
  · replace h := h.1 c1
    exact g_ret zp164 rfl rfl ⟨rfl, h⟩
  · replace h := h.2 c1
    refine g_il zp164 rfl rfl rfl ?_
    refine g_if zp164 rfl rfl zc5 (fun c2 => ?_) (fun c2 => ?_)
    · replace h := h.1 c2
      refine g_al zp164 rfl rfl rfl (by decide) ?_
      refine g_al zp164 rfl rfl rfl (Int.le_trans (by decide) (zW_ge hl1)) ?_
      refine g_get (v := zR (l1 + 1)) zp164 rfl rfl (zW_sh hl1) ⟨rfl, by decide, (zW_ge hl1)⟩ (congrArg (ztag _) (zW_f0 hl1)) ?_
      refine g_il zp164 rfl rfl rfl ?_
      obtain ⟨c3, h⟩ := h
      refine g_ald (v := zI (H (l1 + 1) l3)) zp164 rfl rfl (zW_sh1 hl1) rfl c3 (congrArg (ztag _) (zM_no (zW_ge1 hl1) (zW_fx1 hl1 _))) ?_
      refine g_al zp164 rfl rfl rfl (by decide) ?_
      refine g_callV (as := [zR 48, zI (H (l1 + 1) l3), zR 36]) (rest := []) zp164 rfl rfl (Nat.succ_pos _) rfl rfl (Nat.le_of_ble_eq_true rfl) (Nat.le_of_ble_eq_true rfl) rfl rfl h (fun H4 h => ?_)
      refine g_inc (ls' := [zR 48, zR l1, zR 36, zI (w32 (l3 + 1))]) zp164 rfl rfl rfl rfl ?_
      refine g_goto zp164 rfl ?_
      exact g_weak (ls' := [zR 48, zR l1, zR 36, zI (w32 (l3 + 1))]) ⟨Or.inr rfl, Or.inr rfl, Or.inr rfl, Or.inr rfl, trivial⟩ h
    · replace h := h.2 c2
      refine g_al zp164 rfl rfl rfl (by decide) ?_
      refine g_ic zp164 rfl rfl ?_
      refine g_callV (as := [zR 48, zI 32]) (rest := []) zp164 rfl rfl (Nat.succ_pos _) rfl rfl (Nat.le_of_ble_eq_true rfl) (Nat.le_of_ble_eq_true rfl) rfl rfl h (fun H6 h => ?_)
      refine g_al zp164 rfl rfl rfl (by decide) ?_
      refine g_al zp164 rfl rfl rfl (Int.le_trans (by decide) (zW_ge hl1)) ?_
      refine g_get (v := zR (l1 + 1)) zp164 rfl rfl (zW_sh hl1) ⟨rfl, by decide, (zW_ge hl1)⟩ (congrArg (ztag _) (zW_f0 hl1)) ?_
      refine g_il zp164 rfl rfl rfl ?_
      obtain ⟨c8, h⟩ := h
      refine g_ald (v := zI (H6 (l1 + 1) l3)) zp164 rfl rfl (zW_sh1 hl1) rfl c8 (congrArg (ztag _) (zM_no (zW_ge1 hl1) (zW_fx1 hl1 _))) ?_
      refine g_al zp164 rfl rfl rfl (by decide) ?_
      refine g_callV (as := [zR 48, zI (H6 (l1 + 1) l3), zR 36]) (rest := []) zp164 rfl rfl (Nat.succ_pos _) rfl rfl (Nat.le_of_ble_eq_true rfl) (Nat.le_of_ble_eq_true rfl) rfl rfl h (fun H9 h => ?_)
      refine g_inc (ls' := [zR 48, zR l1, zR 36, zI (w32 (l3 + 1))]) zp164 rfl rfl rfl rfl ?_
      refine g_goto zp164 rfl ?_
      exact g_weak (ls' := [zR 48, zR l1, zR 36, zI (w32 (l3 + 1))]) ⟨Or.inr rfl, Or.inr rfl, Or.inr rfl, Or.inr rfl, trivial⟩ h
theorem zp165 : zprog.getD 165 [] = zk165 := rfl
theorem x165_0 {w : zWt} {d : Nat} {H : zHt} {K : zHt → Prop} {l1 : Int}
    (h : (3232 ≤ (H 48 1) → K H) ∧ ((H 48 1) < 3232 → (0 ≤ (H 48 1) ∧ (H 48 1) < 3232) ∧ K (zup (zup H 49 (H 48 1) l1) 48 1 (w32 ((H 48 1) + 1))))) :
    zclV w d 165 [zR 48, zI l1] H K := by
  show zgo w d 165 0 [zR 48, zI l1] [] H (zQV K)
  refine g_al zp165 rfl rfl rfl (by decide) ?_
  refine g_get (v := zI (H 48 1)) zp165 rfl rfl rfl ⟨rfl, by decide, (by decide)⟩ rfl ?_
  refine g_al zp165 rfl rfl rfl (by decide) ?_
  refine g_get (v := zR 49) zp165 rfl rfl rfl ⟨rfl, by decide, (by decide)⟩ rfl ?_
  refine g_len zp165 rfl rfl rfl (by decide) ?_
  refine g_icmp zp165 rfl rfl zc3 (fun c1 => ?_) (fun c1 => ?_)
  · replace h := h.1 c1
    exact g_ret zp165 rfl rfl ⟨rfl, h⟩
  · replace h := h.2 c1
    refine g_al zp165 rfl rfl rfl (by decide) ?_
    refine g_get (v := zR 49) zp165 rfl rfl rfl ⟨rfl, by decide, (by decide)⟩ rfl ?_
    refine g_al zp165 rfl rfl rfl (by decide) ?_
    refine g_get (v := zI (H 48 1)) zp165 rfl rfl rfl ⟨rfl, by decide, (by decide)⟩ rfl ?_
    refine g_il zp165 rfl rfl rfl ?_
    obtain ⟨c2, h⟩ := h
    refine g_iast zp165 rfl rfl rfl (by decide) rfl c2 ?_
    refine g_al zp165 rfl rfl rfl (by decide) ?_
    refine g_dup zp165 rfl rfl rfl ?_
    refine g_get (v := zI (H 48 1)) zp165 rfl rfl rfl ⟨rfl, by decide, (by decide)⟩ rfl ?_
    refine g_ic zp165 rfl rfl ?_
    refine g_ar (r := w32 ((H 48 1) + 1)) zp165 rfl rfl rfl ?_
    refine g_putI zp165 rfl rfl rfl ⟨rfl, by decide, (by decide)⟩ rfl rfl ?_
    exact g_ret zp165 rfl rfl ⟨rfl, h⟩
theorem zp166 : zprog.getD 166 [] = zk166 := rfl
theorem x166_0 {w : zWt} {d : Nat} {H : zHt} {K : zHt → Prop} {l1 : Int}
    (h : (1 < l1 → zclV w d 45 [zR 36, zI l1] H (fun H2 => zgo w (d + 1) 166 18 [zR 48, zJ, zR 36, zI 0] [] H2 (zQV K))) ∧ (l1 ≤ 1 → zclV w d 167 [zR 48, zI l1] H (fun H4 => K H4))) :
    zclV w (d + 1) 166 [zR 48, zI l1, zR 36] H K := by
  show zgo w (d + 1) 166 0 [zR 48, zI l1, zR 36, zJ] [] H (zQV K)
  refine g_il zp166 rfl rfl rfl ?_
  refine g_ic zp166 rfl rfl ?_
  refine g_icmp zp166 rfl rfl zc4 (fun c1 => ?_) (fun c1 => ?_)
  · replace h := h.1 c1
    refine g_al zp166 rfl rfl rfl (by decide) ?_
    refine g_il zp166 rfl rfl rfl ?_
    refine g_callV (as := [zR 36, zI l1]) (rest := []) zp166 rfl rfl (Nat.succ_pos _) rfl rfl (Nat.le_of_ble_eq_true rfl) (Nat.le_of_ble_eq_true rfl) rfl rfl h (fun H2 h => ?_)
    refine g_ic zp166 rfl rfl ?_
    refine g_is (ls' := [zR 48, zI l1, zR 36, zI 0]) zp166 rfl rfl (Nat.le_of_ble_eq_true rfl) rfl ?_
    exact g_weak (ls' := [zR 48, zJ, zR 36, zI 0]) ⟨Or.inr rfl, Or.inl rfl, Or.inr rfl, Or.inr rfl, trivial⟩ h
  · replace h := h.2 c1
    refine g_al zp166 rfl rfl rfl (by decide) ?_
    refine g_il zp166 rfl rfl rfl ?_
    refine g_callV (as := [zR 48, zI l1]) (rest := []) zp166 rfl rfl (Nat.succ_pos _) rfl rfl (Nat.le_of_ble_eq_true rfl) (Nat.le_of_ble_eq_true rfl) rfl rfl h (fun H4 h => ?_)
    exact g_ret zp166 rfl rfl ⟨rfl, h⟩
theorem x166_18 {w : zWt} {d : Nat} {H : zHt} {K : zHt → Prop} {l3 : Int}
    (h : ((H 36 3) ≤ l3 → K H) ∧ (l3 < (H 36 3) → (l3 ≤ 0 → zgo w (d + 1) 166 36 [zR 48, zJ, zR 36, zI l3] [] H (zQV K)) ∧ (0 < l3 → zclV w d 165 [zR 48, zI 42] H (fun H3 => zgo w (d + 1) 166 36 [zR 48, zJ, zR 36, zI l3] [] H3 (zQV K))))) :
    zgo w (d + 1) 166 18 [zR 48, zJ, zR 36, zI l3] [] H (zQV K) := by
  refine g_il zp166 rfl rfl rfl ?_
  refine g_al zp166 rfl rfl rfl (by decide) ?_
  refine g_get (v := zI (H 36 3)) zp166 rfl rfl rfl ⟨rfl, by decide, (by decide)⟩ rfl ?_
  refine g_icmp zp166 rfl rfl zc3 (fun c1 => ?_) (fun c1 => ?_)
  · replace h := h.1 c1
    exact g_ret zp166 rfl rfl ⟨rfl, h⟩
  · replace h := h.2 c1
    refine g_il zp166 rfl rfl rfl ?_
    refine g_if zp166 rfl rfl zc5 (fun c2 => ?_) (fun c2 => ?_)
    · replace h := h.1 c2
      exact g_weak (ls' := [zR 48, zJ, zR 36, zI l3]) ⟨Or.inr rfl, Or.inr rfl, Or.inr rfl, Or.inr rfl, trivial⟩ h
    · replace h := h.2 c2
      refine g_al zp166 rfl rfl rfl (by decide) ?_
      refine g_ic zp166 rfl rfl ?_
      refine g_callV (as := [zR 48, zI 42]) (rest := []) zp166 rfl rfl (Nat.succ_pos _) rfl rfl (Nat.le_of_ble_eq_true rfl) (Nat.le_of_ble_eq_true rfl) rfl rfl h (fun H3 h => ?_)
      exact g_weak (ls' := [zR 48, zJ, zR 36, zI l3]) ⟨Or.inr rfl, Or.inr rfl, Or.inr rfl, Or.inr rfl, trivial⟩ h
theorem x166_36 {w : zWt} {d : Nat} {H : zHt} {K : zHt → Prop} {l3 : Int}
    (h : (0 ≤ l3 ∧ l3 < 9) ∧ zclV w d 167 [zR 48, zI (H 37 l3)] H (fun H2 => ((H2 38 l3) ≤ 1 → zgo w (d + 1) 166 18 [zR 48, zJ, zR 36, zI (w32 (l3 + 1))] [] H2 (zQV K)) ∧ (1 < (H2 38 l3) → zclV w d 165 [zR 48, zI 94] H2 (fun H5 => zclV w d 167 [zR 48, zI (H5 38 l3)] H5 (fun H7 => zgo w (d + 1) 166 18 [zR 48, zJ, zR 36, zI (w32 (l3 + 1))] [] H7 (zQV K)))))) :
    zgo w (d + 1) 166 36 [zR 48, zJ, zR 36, zI l3] [] H (zQV K) := by
  refine g_al zp166 rfl rfl rfl (by decide) ?_
  refine g_al zp166 rfl rfl rfl (by decide) ?_
  refine g_get (v := zR 37) zp166 rfl rfl rfl ⟨rfl, by decide, (by decide)⟩ rfl ?_
  refine g_il zp166 rfl rfl rfl ?_
  obtain ⟨c1, h⟩ := h
  refine g_ald (v := zI (H 37 l3)) zp166 rfl rfl rfl rfl c1 rfl ?_
  refine g_callV (as := [zR 48, zI (H 37 l3)]) (rest := []) zp166 rfl rfl (Nat.succ_pos _) rfl rfl (Nat.le_of_ble_eq_true rfl) (Nat.le_of_ble_eq_true rfl) rfl rfl h (fun H2 h => ?_)
  refine g_al zp166 rfl rfl rfl (by decide) ?_
  refine g_get (v := zR 38) zp166 rfl rfl rfl ⟨rfl, by decide, (by decide)⟩ rfl ?_
  refine g_il zp166 rfl rfl rfl ?_
  refine g_ald (v := zI (H2 38 l3)) zp166 rfl rfl rfl rfl c1 rfl ?_
  refine g_ic zp166 rfl rfl ?_
  refine g_icmp zp166 rfl rfl zc5 (fun c4 => ?_) (fun c4 => ?_)
  · replace h := h.1 c4
    refine g_inc (ls' := [zR 48, zJ, zR 36, zI (w32 (l3 + 1))]) zp166 rfl rfl rfl rfl ?_
    refine g_goto zp166 rfl ?_
    exact g_weak (ls' := [zR 48, zJ, zR 36, zI (w32 (l3 + 1))]) ⟨Or.inr rfl, Or.inr rfl, Or.inr rfl, Or.inr rfl, trivial⟩ h
  · replace h := h.2 c4
    refine g_al zp166 rfl rfl rfl (by decide) ?_
    refine g_ic zp166 rfl rfl ?_
    refine g_callV (as := [zR 48, zI 94]) (rest := []) zp166 rfl rfl (Nat.succ_pos _) rfl rfl (Nat.le_of_ble_eq_true rfl) (Nat.le_of_ble_eq_true rfl) rfl rfl h (fun H5 h => ?_)
    refine g_al zp166 rfl rfl rfl (by decide) ?_
    refine g_al zp166 rfl rfl rfl (by decide) ?_
    refine g_get (v := zR 38) zp166 rfl rfl rfl ⟨rfl, by decide, (by decide)⟩ rfl ?_
    refine g_il zp166 rfl rfl rfl ?_
    refine g_ald (v := zI (H5 38 l3)) zp166 rfl rfl rfl rfl c1 rfl ?_
    refine g_callV (as := [zR 48, zI (H5 38 l3)]) (rest := []) zp166 rfl rfl (Nat.succ_pos _) rfl rfl (Nat.le_of_ble_eq_true rfl) (Nat.le_of_ble_eq_true rfl) rfl rfl h (fun H7 h => ?_)
    refine g_inc (ls' := [zR 48, zJ, zR 36, zI (w32 (l3 + 1))]) zp166 rfl rfl rfl rfl ?_
    refine g_goto zp166 rfl ?_
    exact g_weak (ls' := [zR 48, zJ, zR 36, zI (w32 (l3 + 1))]) ⟨Or.inr rfl, Or.inr rfl, Or.inr rfl, Or.inr rfl, trivial⟩ h
theorem zp167 : zprog.getD 167 [] = zk167 := rfl
theorem x167_0 {w : zWt} {d : Nat} {H : zHt} {K : zHt → Prop} {l1 : Int}
    (h : zgo w (d + 1) 167 4 [zR 48, zI l1, zI 1, zI 0] [] H (zQV K)) :
    zclV w (d + 1) 167 [zR 48, zI l1] H K := by
  show zgo w (d + 1) 167 0 [zR 48, zI l1, zJ, zJ] [] H (zQV K)
  refine g_ic zp167 rfl rfl ?_
  refine g_is (ls' := [zR 48, zI l1, zI 1, zJ]) zp167 rfl rfl (Nat.le_of_ble_eq_true rfl) rfl ?_
  refine g_ic zp167 rfl rfl ?_
  refine g_is (ls' := [zR 48, zI l1, zI 1, zI 0]) zp167 rfl rfl (Nat.le_of_ble_eq_true rfl) rfl ?_
  exact g_weak (ls' := [zR 48, zI l1, zI 1, zI 0]) ⟨Or.inr rfl, Or.inr rfl, Or.inr rfl, Or.inr rfl, trivial⟩ h
theorem x167_4 {w : zWt} {d : Nat} {H : zHt} {K : zHt → Prop} {l1 : Int} {l2 : Int} {l3 : Int}
    (h : (9 ≤ l3 → zgo w (d + 1) 167 29 [zR 48, zI l1, zI l2, zJ] [] H (zQV K)) ∧ (l3 < 9 → (l2 ≠ 0) ∧ ((w32 (Int.tdiv l1 l2)) < 10 → zgo w (d + 1) 167 29 [zR 48, zI l1, zI l2, zJ] [] H (zQV K)) ∧ (10 ≤ (w32 (Int.tdiv l1 l2)) → zgo w (d + 1) 167 4 [zR 48, zI l1, zI (w32 (l2 * 10)), zI (w32 (l3 + 1))] [] H (zQV K)))) :
    zgo w (d + 1) 167 4 [zR 48, zI l1, zI l2, zI l3] [] H (zQV K) := by
  refine g_il zp167 rfl rfl rfl ?_
  refine g_ic zp167 rfl rfl ?_
  refine g_icmp zp167 rfl rfl zc3 (fun c1 => ?_) (fun c1 => ?_)
  · replace h := h.1 c1
    exact g_weak (ls' := [zR 48, zI l1, zI l2, zJ]) ⟨Or.inr rfl, Or.inr rfl, Or.inr rfl, Or.inl rfl, trivial⟩ h
  · replace h := h.2 c1
    refine g_il zp167 rfl rfl rfl ?_
    refine g_il zp167 rfl rfl rfl ?_
    obtain ⟨c2, h⟩ := h
    refine g_ar (r := w32 (Int.tdiv l1 l2)) zp167 rfl rfl (zr_div c2) ?_
    refine g_ic zp167 rfl rfl ?_
    refine g_icmp zp167 rfl rfl zc2 (fun c3 => ?_) (fun c3 => ?_)
    · replace h := h.1 c3
      exact g_weak (ls' := [zR 48, zI l1, zI l2, zJ]) ⟨Or.inr rfl, Or.inr rfl, Or.inr rfl, Or.inl rfl, trivial⟩ h
    · replace h := h.2 c3
      refine g_il zp167 rfl rfl rfl ?_
      refine g_ic zp167 rfl rfl ?_
      refine g_ar (r := w32 (l2 * 10)) zp167 rfl rfl rfl ?_
      refine g_is (ls' := [zR 48, zI l1, zI (w32 (l2 * 10)), zI l3]) zp167 rfl rfl (Nat.le_of_ble_eq_true rfl) rfl ?_
      refine g_inc (ls' := [zR 48, zI l1, zI (w32 (l2 * 10)), zI (w32 (l3 + 1))]) zp167 rfl rfl rfl rfl ?_
      refine g_goto zp167 rfl ?_
      exact g_weak (ls' := [zR 48, zI l1, zI (w32 (l2 * 10)), zI (w32 (l3 + 1))]) ⟨Or.inr rfl, Or.inr rfl, Or.inr rfl, Or.inr rfl, trivial⟩ h
theorem x167_29 {w : zWt} {d : Nat} {H : zHt} {K : zHt → Prop} {l1 : Int} {l2 : Int}
    (h : (l2 ≤ 0 → K H) ∧ (0 < l2 → (l2 ≠ 0) ∧ zclV w d 165 [zR 48, zI (w32 (48 + (Int.tmod (w32 (Int.tdiv l1 l2)) 10)))] H (fun H3 => zgo w (d + 1) 167 29 [zR 48, zI l1, zI (w32 (Int.tdiv l2 10)), zJ] [] H3 (zQV K)))) :
    zgo w (d + 1) 167 29 [zR 48, zI l1, zI l2, zJ] [] H (zQV K) := by
  refine g_il zp167 rfl rfl rfl ?_
  refine g_if zp167 rfl rfl zc5 (fun c1 => ?_) (fun c1 => ?_)
  · replace h := h.1 c1
    exact g_ret zp167 rfl rfl ⟨rfl, h⟩
  · replace h := h.2 c1
    refine g_al zp167 rfl rfl rfl (by decide) ?_
    refine g_ic zp167 rfl rfl ?_
    refine g_il zp167 rfl rfl rfl ?_
    refine g_il zp167 rfl rfl rfl ?_
    obtain ⟨c2, h⟩ := h
    refine g_ar (r := w32 (Int.tdiv l1 l2)) zp167 rfl rfl (zr_div c2) ?_
    refine g_ic zp167 rfl rfl ?_
    refine g_ar (r := Int.tmod (w32 (Int.tdiv l1 l2)) 10) zp167 rfl rfl (zr_rem (by decide)) ?_
    refine g_ar (r := w32 (48 + (Int.tmod (w32 (Int.tdiv l1 l2)) 10))) zp167 rfl rfl rfl ?_
    refine g_callV (as := [zR 48, zI (w32 (48 + (Int.tmod (w32 (Int.tdiv l1 l2)) 10)))]) (rest := []) zp167 rfl rfl (Nat.succ_pos _) rfl rfl (Nat.le_of_ble_eq_true rfl) (Nat.le_of_ble_eq_true rfl) rfl rfl h (fun H3 h => ?_)
    refine g_il zp167 rfl rfl rfl ?_
    refine g_ic zp167 rfl rfl ?_
    refine g_ar (r := w32 (Int.tdiv l2 10)) zp167 rfl rfl (zr_div (by decide)) ?_
    refine g_is (ls' := [zR 48, zI l1, zI (w32 (Int.tdiv l2 10)), zJ]) zp167 rfl rfl (Nat.le_of_ble_eq_true rfl) rfl ?_
    refine g_goto zp167 rfl ?_
    exact g_weak (ls' := [zR 48, zI l1, zI (w32 (Int.tdiv l2 10)), zJ]) ⟨Or.inr rfl, Or.inr rfl, Or.inr rfl, Or.inr rfl, trivial⟩ h
theorem zp168 : zprog.getD 168 [] = zk168 := rfl
theorem x168_0 {w : zWt} {d : Nat} {H : zHt} {K : Int → zHt → Prop} {l1 : Int}
    (h : (0 ≤ l1 → ((H 48 1) ≤ l1 → zclI w d 13 [zR 32, zI 5] H (fun x4 H3 => K x4 H3)) ∧ (l1 < (H 48 1) → (0 ≤ l1 ∧ l1 < 3232) ∧ zclI w d 39 [zR 32, zI (H 49 l1)] H (fun x7 H6 => K x7 H6))) ∧ (l1 < 0 → zclI w d 13 [zR 32, zI 1] H (fun x9 H8 => K x9 H8))) :
    zclI w (d + 1) 168 [zR 32, zI l1] H K := by
  show zgo w (d + 1) 168 0 [zR 32, zI l1] [] H (zQI K)
  refine g_il zp168 rfl rfl rfl ?_
  refine g_if zp168 rfl rfl zc3 (fun c1 => ?_) (fun c1 => ?_)
  · replace h := h.1 c1
    refine g_il zp168 rfl rfl rfl ?_
    refine g_al zp168 rfl rfl rfl (by decide) ?_
    refine g_get (v := zR 48) zp168 rfl rfl rfl ⟨rfl, by decide, (by decide)⟩ rfl ?_
    refine g_get (v := zI (H 48 1)) zp168 rfl rfl rfl ⟨rfl, by decide, (by decide)⟩ rfl ?_
    refine g_icmp zp168 rfl rfl zc3 (fun c2 => ?_) (fun c2 => ?_)
    · replace h := h.1 c2
      refine g_al zp168 rfl rfl rfl (by decide) ?_
      refine g_ic zp168 rfl rfl ?_
      refine g_callI (as := [zR 32, zI 5]) (rest := []) zp168 rfl rfl (Nat.succ_pos _) rfl rfl (Nat.le_of_ble_eq_true rfl) (Nat.le_of_ble_eq_true rfl) rfl rfl h (fun x4 H3 h => ?_)
      exact g_ret zp168 rfl rfl ⟨_, rfl, h⟩
    · replace h := h.2 c2
      refine g_al zp168 rfl rfl rfl (by decide) ?_
      refine g_al zp168 rfl rfl rfl (by decide) ?_
      refine g_get (v := zR 48) zp168 rfl rfl rfl ⟨rfl, by decide, (by decide)⟩ rfl ?_
      refine g_get (v := zR 49) zp168 rfl rfl rfl ⟨rfl, by decide, (by decide)⟩ rfl ?_
      refine g_il zp168 rfl rfl rfl ?_
      obtain ⟨c5, h⟩ := h
      refine g_ald (v := zI (H 49 l1)) zp168 rfl rfl rfl rfl c5 rfl ?_
      refine g_callI (as := [zR 32, zI (H 49 l1)]) (rest := []) zp168 rfl rfl (Nat.succ_pos _) rfl rfl (Nat.le_of_ble_eq_true rfl) (Nat.le_of_ble_eq_true rfl) rfl rfl h (fun x7 H6 h => ?_)
      refine g_goto zp168 rfl ?_
      exact g_ret zp168 rfl rfl ⟨_, rfl, h⟩
  · replace h := h.2 c1
    refine g_al zp168 rfl rfl rfl (by decide) ?_
    refine g_ic zp168 rfl rfl ?_
    refine g_callI (as := [zR 32, zI 1]) (rest := []) zp168 rfl rfl (Nat.succ_pos _) rfl rfl (Nat.le_of_ble_eq_true rfl) (Nat.le_of_ble_eq_true rfl) rfl rfl h (fun x9 H8 h => ?_)
    exact g_ret zp168 rfl rfl ⟨_, rfl, h⟩
theorem zp169 : zprog.getD 169 [] = zk169 := rfl
theorem x169_0 {w : zWt} {d : Nat} {H : zHt} {K : Int → zHt → Prop} 
    (h : ((H 32 11) < 1 → zclI w d 13 [zR 32, zI 5] H (fun x3 H2 => K x3 H2)) ∧ (1 ≤ (H 32 11) → ((H 32 11) ≤ 8 → (0 ≤ (w32 ((H 32 11) - 1)) ∧ (w32 ((H 32 11) - 1)) < 8) ∧ (zisD ((zup H 32 11 (w32 ((H 32 11) - 1))) 44 (w32 ((H 32 11) - 1)))) ∧ zclV w d 37 [zR 40, zR ((zup H 32 11 (w32 ((H 32 11) - 1))) 44 (w32 ((H 32 11) - 1)))] (zup H 32 11 (w32 ((H 32 11) - 1))) (fun H7 => zclV w d 38 [zR 32] H7 (fun H9 => zclI w d 39 [zR 32, zI (H9 32 11)] H9 (fun x12 H11 => K x12 H11)))) ∧ (8 < (H 32 11) → zclI w d 13 [zR 32, zI 5] H (fun x14 H13 => K x14 H13)))) :
    zclI w (d + 1) 169 [zR 32] H K := by
  show zgo w (d + 1) 169 0 [zR 32] [] H (zQI K)
  refine g_al zp169 rfl rfl rfl (by decide) ?_
  refine g_get (v := zI (H 32 11)) zp169 rfl rfl rfl ⟨rfl, by decide, (by decide)⟩ rfl ?_
  refine g_ic zp169 rfl rfl ?_
  refine g_icmp zp169 rfl rfl zc2 (fun c1 => ?_) (fun c1 => ?_)
  · replace h := h.1 c1
    refine g_al zp169 rfl rfl rfl (by decide) ?_
    refine g_ic zp169 rfl rfl ?_
    refine g_callI (as := [zR 32, zI 5]) (rest := []) zp169 rfl rfl (Nat.succ_pos _) rfl rfl (Nat.le_of_ble_eq_true rfl) (Nat.le_of_ble_eq_true rfl) rfl rfl h (fun x3 H2 h => ?_)
    exact g_ret zp169 rfl rfl ⟨_, rfl, h⟩
  · replace h := h.2 c1
    refine g_al zp169 rfl rfl rfl (by decide) ?_
    refine g_get (v := zI (H 32 11)) zp169 rfl rfl rfl ⟨rfl, by decide, (by decide)⟩ rfl ?_
    refine g_al zp169 rfl rfl rfl (by decide) ?_
    refine g_get (v := zR 44) zp169 rfl rfl rfl ⟨rfl, by decide, (by decide)⟩ rfl ?_
    refine g_len zp169 rfl rfl rfl (by decide) ?_
    refine g_icmp zp169 rfl rfl zc5 (fun c4 => ?_) (fun c4 => ?_)
    · replace h := h.1 c4
      refine g_al zp169 rfl rfl rfl (by decide) ?_
      refine g_dup zp169 rfl rfl rfl ?_
      refine g_get (v := zI (H 32 11)) zp169 rfl rfl rfl ⟨rfl, by decide, (by decide)⟩ rfl ?_
      refine g_ic zp169 rfl rfl ?_
      refine g_ar (r := w32 ((H 32 11) - 1)) zp169 rfl rfl rfl ?_
      refine g_putI zp169 rfl rfl rfl ⟨rfl, by decide, (by decide)⟩ rfl rfl ?_
      refine g_al zp169 rfl rfl rfl (by decide) ?_
      refine g_get (v := zR 40) zp169 rfl rfl rfl ⟨rfl, by decide, (by decide)⟩ rfl ?_
      refine g_al zp169 rfl rfl rfl (by decide) ?_
      refine g_get (v := zR 44) zp169 rfl rfl rfl ⟨rfl, by decide, (by decide)⟩ rfl ?_
      refine g_al zp169 rfl rfl rfl (by decide) ?_
      refine g_get (v := zI (w32 ((H 32 11) - 1))) zp169 rfl rfl rfl ⟨rfl, by decide, (by decide)⟩ rfl ?_
      obtain ⟨c5, h⟩ := h
      obtain ⟨c6, h⟩ := h
      refine g_ald (v := zR ((zup H 32 11 (w32 ((H 32 11) - 1))) 44 (w32 ((H 32 11) - 1)))) zp169 rfl rfl rfl rfl c5 rfl ?_
      refine g_callV (as := [zR 40, zR ((zup H 32 11 (w32 ((H 32 11) - 1))) 44 (w32 ((H 32 11) - 1)))]) (rest := []) zp169 rfl rfl (Nat.succ_pos _) rfl rfl (Nat.le_of_ble_eq_true rfl) (Nat.le_of_ble_eq_true rfl) rfl rfl h (fun H7 h => ?_)
      refine g_al zp169 rfl rfl rfl (by decide) ?_
      refine g_callV (as := [zR 32]) (rest := []) zp169 rfl rfl (Nat.succ_pos _) rfl rfl (Nat.le_of_ble_eq_true rfl) (Nat.le_of_ble_eq_true rfl) rfl rfl h (fun H9 h => ?_)
      refine g_al zp169 rfl rfl rfl (by decide) ?_
      refine g_al zp169 rfl rfl rfl (by decide) ?_
      refine g_get (v := zI (H9 32 11)) zp169 rfl rfl rfl ⟨rfl, by decide, (by decide)⟩ rfl ?_
      refine g_callI (as := [zR 32, zI (H9 32 11)]) (rest := []) zp169 rfl rfl (Nat.succ_pos _) rfl rfl (Nat.le_of_ble_eq_true rfl) (Nat.le_of_ble_eq_true rfl) rfl rfl h (fun x12 H11 h => ?_)
      exact g_ret zp169 rfl rfl ⟨_, rfl, h⟩
    · replace h := h.2 c4
      refine g_al zp169 rfl rfl rfl (by decide) ?_
      refine g_ic zp169 rfl rfl ?_
      refine g_callI (as := [zR 32, zI 5]) (rest := []) zp169 rfl rfl (Nat.succ_pos _) rfl rfl (Nat.le_of_ble_eq_true rfl) (Nat.le_of_ble_eq_true rfl) rfl rfl h (fun x14 H13 h => ?_)
      exact g_ret zp169 rfl rfl ⟨_, rfl, h⟩
theorem zp171 : zprog.getD 171 [] = zk171 := rfl
theorem x171_0 {w : zWt} {d : Nat} {H : zHt} {K : Int → zHt → Prop} 
    (h : K (H 81 0) (zup H 81 1 0)) :
    zclI w d 171 [zR 81] H K := by
  show zgo w d 171 0 [zR 81] [] H (zQI K)
  refine g_al zp171 rfl rfl rfl (by decide) ?_
  refine g_ic zp171 rfl rfl ?_
  refine g_putI zp171 rfl rfl rfl ⟨rfl, by decide, (by decide)⟩ rfl rfl ?_
  refine g_al zp171 rfl rfl rfl (by decide) ?_
  refine g_get (v := zI (H 81 0)) zp171 rfl rfl rfl ⟨rfl, by decide, (by decide)⟩ rfl ?_
  exact g_ret zp171 rfl rfl ⟨_, rfl, h⟩
theorem zp172 : zprog.getD 172 [] = zk172 := rfl
theorem x172_0 {w : zWt} {d : Nat} {H : zHt} {K : Int → zHt → Prop} {l1 : Int}
    (h : zclI w d 173 [zL l1, zL 0, zL 4] H (fun x2 H1 => (x2 = 0 → zclI w d 174 [zR 81, zI 1] H1 (fun x5 H4 => (x5 = 0 → K (-1) H4) ∧ (¬ x5 = 0 → (¬ l1 = 4 → (0 ≤ (w32 (6 + l1)) ∧ (w32 (6 + l1)) < 10) ∧ K (H4 82 (w32 (6 + l1))) H4) ∧ (l1 = 4 → K (H4 81 5) H4)))) ∧ (¬ x2 = 0 → zclI w d 174 [zR 81, zI 0] H1 (fun x10 H9 => (x10 = 0 → K (-1) H9) ∧ (¬ x10 = 0 → (¬ l1 = 4 → (0 ≤ (w32 (6 + l1)) ∧ (w32 (6 + l1)) < 10) ∧ K (H9 82 (w32 (6 + l1))) H9) ∧ (l1 = 4 → K (H9 81 5) H9)))))) :
    zclI w (d + 1) 172 [zR 81, zI l1] H K := by
  show zgo w (d + 1) 172 0 [zR 81, zI l1] [] H (zQI K)
  refine g_al zp172 rfl rfl rfl (by decide) ?_
  refine g_il zp172 rfl rfl rfl ?_
  refine g_i2l zp172 rfl rfl ?_
  refine g_lc zp172 rfl rfl ?_
  refine g_lc zp172 rfl rfl ?_
  refine g_callI (as := [zL l1, zL 0, zL 4]) (rest := [zR 81]) zp172 rfl rfl (Nat.succ_pos _) rfl rfl (Nat.le_of_ble_eq_true rfl) (Nat.le_of_ble_eq_true rfl) rfl rfl h (fun x2 H1 h => ?_)
  refine g_if zp172 rfl rfl zc0 (fun c3 => ?_) (fun c3 => ?_)
  · replace h := h.1 c3
    refine g_ic zp172 rfl rfl ?_
    refine g_callI (as := [zR 81, zI 1]) (rest := []) zp172 rfl rfl (Nat.succ_pos _) rfl rfl (Nat.le_of_ble_eq_true rfl) (Nat.le_of_ble_eq_true rfl) rfl rfl h (fun x5 H4 h => ?_)
    refine g_if zp172 rfl rfl zc0 (fun c6 => ?_) (fun c6 => ?_)
    · replace h := h.1 c6
      refine g_ic zp172 rfl rfl ?_
      exact g_ret zp172 rfl rfl ⟨_, rfl, h⟩
    · replace h := h.2 c6
      refine g_il zp172 rfl rfl rfl ?_
      refine g_ic zp172 rfl rfl ?_
      refine g_icmp zp172 rfl rfl zc1 (fun c7 => ?_) (fun c7 => ?_)
      · replace h := h.1 c7
        refine g_al zp172 rfl rfl rfl (by decide) ?_
        refine g_get (v := zR 82) zp172 rfl rfl rfl ⟨rfl, by decide, (by decide)⟩ rfl ?_
        refine g_ic zp172 rfl rfl ?_
        refine g_il zp172 rfl rfl rfl ?_
        refine g_ar (r := w32 (6 + l1)) zp172 rfl rfl rfl ?_
        obtain ⟨c8, h⟩ := h
        refine g_ald (v := zI (H4 82 (w32 (6 + l1)))) zp172 rfl rfl rfl rfl c8 rfl ?_
        refine g_goto zp172 rfl ?_
        exact g_ret zp172 rfl rfl ⟨_, rfl, h⟩
      · replace h := h.2 c7
        refine g_al zp172 rfl rfl rfl (by decide) ?_
        refine g_get (v := zI (H4 81 5)) zp172 rfl rfl rfl ⟨rfl, by decide, (by decide)⟩ rfl ?_
        refine g_goto zp172 rfl ?_
        exact g_ret zp172 rfl rfl ⟨_, rfl, h⟩
  · replace h := h.2 c3
    refine g_ic zp172 rfl rfl ?_
    refine g_goto zp172 rfl ?_
    refine g_callI (as := [zR 81, zI 0]) (rest := []) zp172 rfl rfl (Nat.succ_pos _) rfl rfl (Nat.le_of_ble_eq_true rfl) (Nat.le_of_ble_eq_true rfl) rfl rfl h (fun x10 H9 h => ?_)
    refine g_if zp172 rfl rfl zc0 (fun c11 => ?_) (fun c11 => ?_)
    · replace h := h.1 c11
      refine g_ic zp172 rfl rfl ?_
      exact g_ret zp172 rfl rfl ⟨_, rfl, h⟩
    · replace h := h.2 c11
      refine g_il zp172 rfl rfl rfl ?_
      refine g_ic zp172 rfl rfl ?_
      refine g_icmp zp172 rfl rfl zc1 (fun c12 => ?_) (fun c12 => ?_)
      · replace h := h.1 c12
        refine g_al zp172 rfl rfl rfl (by decide) ?_
        refine g_get (v := zR 82) zp172 rfl rfl rfl ⟨rfl, by decide, (by decide)⟩ rfl ?_
        refine g_ic zp172 rfl rfl ?_
        refine g_il zp172 rfl rfl rfl ?_
        refine g_ar (r := w32 (6 + l1)) zp172 rfl rfl rfl ?_
        obtain ⟨c13, h⟩ := h
        refine g_ald (v := zI (H9 82 (w32 (6 + l1)))) zp172 rfl rfl rfl rfl c13 rfl ?_
        refine g_goto zp172 rfl ?_
        exact g_ret zp172 rfl rfl ⟨_, rfl, h⟩
      · replace h := h.2 c12
        refine g_al zp172 rfl rfl rfl (by decide) ?_
        refine g_get (v := zI (H9 81 5)) zp172 rfl rfl rfl ⟨rfl, by decide, (by decide)⟩ rfl ?_
        refine g_goto zp172 rfl ?_
        exact g_ret zp172 rfl rfl ⟨_, rfl, h⟩
theorem zp173 : zprog.getD 173 [] = zk173 := rfl
theorem x173_0 {w : zWt} {d : Nat} {H : zHt} {K : Int → zHt → Prop} {l0 : Int} {l2 : Int} {l4 : Int}
    (h : (l0 < l2 → K 0 H) ∧ (l2 ≤ l0 → (l4 < l0 → K 0 H) ∧ (l0 ≤ l4 → K 1 H))) :
    zclI w d 173 [zL l0, zL l2, zL l4] H K := by
  show zgo w d 173 0 [zL l0, zJ, zL l2, zJ, zL l4, zJ] [] H (zQI K)
  refine g_ll zp173 rfl rfl rfl ?_
  refine g_ll zp173 rfl rfl rfl ?_
  refine g_lcmp zp173 rfl rfl rfl rfl zc2 (fun c1 => ?_) (fun c1 => ?_)
  · replace h := h.1 c1
    refine g_ic zp173 rfl rfl ?_
    exact g_ret zp173 rfl (zret_b (by decide)) ⟨_, rfl, h⟩
  · replace h := h.2 c1
    refine g_ll zp173 rfl rfl rfl ?_
    refine g_ll zp173 rfl rfl rfl ?_
    refine g_lcmp zp173 rfl rfl rfl rfl zc4 (fun c2 => ?_) (fun c2 => ?_)
    · replace h := h.1 c2
      refine g_ic zp173 rfl rfl ?_
      exact g_ret zp173 rfl (zret_b (by decide)) ⟨_, rfl, h⟩
    · replace h := h.2 c2
      refine g_ic zp173 rfl rfl ?_
      refine g_goto zp173 rfl ?_
      exact g_ret zp173 rfl (zret_b (by decide)) ⟨_, rfl, h⟩
theorem zp174 : zprog.getD 174 [] = zk174 := rfl
theorem x174_0 {w : zWt} {d : Nat} {H : zHt} {K : Int → zHt → Prop} {l1 : Int}
    (h : (¬ l1 = 0 → K 0 (zup (zup H 81 1 0) 81 0 l1)) ∧ (l1 = 0 → K 1 (zup (zup H 81 1 0) 81 0 l1))) :
    zclI w d 174 [zR 81, zI l1] H K := by
  show zgo w d 174 0 [zR 81, zI l1] [] H (zQI K)
  refine g_al zp174 rfl rfl rfl (by decide) ?_
  refine g_ic zp174 rfl rfl ?_
  refine g_putI zp174 rfl rfl rfl ⟨rfl, by decide, (by decide)⟩ rfl rfl ?_
  refine g_al zp174 rfl rfl rfl (by decide) ?_
  refine g_il zp174 rfl rfl rfl ?_
  refine g_putI zp174 rfl rfl rfl ⟨rfl, by decide, (by decide)⟩ rfl rfl ?_
  refine g_il zp174 rfl rfl rfl ?_
  refine g_if zp174 rfl rfl zc1 (fun c1 => ?_) (fun c1 => ?_)
  · replace h := h.1 c1
    refine g_ic zp174 rfl rfl ?_
    exact g_ret zp174 rfl (zret_b (by decide)) ⟨_, rfl, h⟩
  · replace h := h.2 c1
    refine g_ic zp174 rfl rfl ?_
    refine g_goto zp174 rfl ?_
    exact g_ret zp174 rfl (zret_b (by decide)) ⟨_, rfl, h⟩
theorem zp175 : zprog.getD 175 [] = zk175 := rfl
theorem x175_0 {w : zWt} {d : Nat} {H : zHt} {K : Int → zHt → Prop} {l1 : Int} {l2 : Int} {l3 : Int}
    (h : zclI w d 176 [zI l1] H (fun x2 H1 => (x2 = 0 → zgo w (d + 1) 175 40 [zR 81, zI l1, zI l2, zI l3, zJ] [zI 1, zR 81] H1 (zQI K)) ∧ (¬ x2 = 0 → (l2 < (-1) → zgo w (d + 1) 175 40 [zR 81, zI l1, zI l2, zI l3, zJ] [zI 1, zR 81] H1 (zQI K)) ∧ ((-1) ≤ l2 → zclI w d 173 [zL l3, zL 0, zL 1] H1 (fun x8 H7 => (x8 = 0 → zgo w (d + 1) 175 40 [zR 81, zI l1, zI l2, zI l3, zJ] [zI 1, zR 81] H7 (zQI K)) ∧ (¬ x8 = 0 → zgo w (d + 1) 175 40 [zR 81, zI l1, zI l2, zI l3, zJ] [zI 0, zR 81] H7 (zQI K))))))) :
    zclI w (d + 1) 175 [zR 81, zI l1, zI l2, zI l3] H K := by
  show zgo w (d + 1) 175 0 [zR 81, zI l1, zI l2, zI l3, zJ] [] H (zQI K)
  refine g_il zp175 rfl rfl rfl ?_
  refine g_callI (as := [zI l1]) (rest := []) zp175 rfl rfl (Nat.succ_pos _) rfl rfl (Nat.le_of_ble_eq_true rfl) (Nat.le_of_ble_eq_true rfl) rfl rfl h (fun x2 H1 h => ?_)
  refine g_if zp175 rfl rfl zc0 (fun c3 => ?_) (fun c3 => ?_)
  · replace h := h.1 c3
    refine g_ic zp175 rfl rfl ?_
    refine g_is (ls' := [zR 81, zI l1, zI l2, zI l3, zI 0]) zp175 rfl rfl (Nat.le_of_ble_eq_true rfl) rfl ?_
    refine g_al zp175 rfl rfl rfl (by decide) ?_
    refine g_il zp175 rfl rfl rfl ?_
    refine g_if zp175 rfl rfl zc0 (fun c4 => ?_) (fun c4 => ?_)
    · refine g_ic zp175 rfl rfl ?_
      exact g_weak (ls' := [zR 81, zI l1, zI l2, zI l3, zJ]) ⟨Or.inr rfl, Or.inr rfl, Or.inr rfl, Or.inr rfl, Or.inl rfl, trivial⟩ h
    · exact absurd c4 (by decide)
  · replace h := h.2 c3
    refine g_il zp175 rfl rfl rfl ?_
    refine g_ic zp175 rfl rfl ?_
    refine g_icmp zp175 rfl rfl zc2 (fun c5 => ?_) (fun c5 => ?_)
    · replace h := h.1 c5
      refine g_ic zp175 rfl rfl ?_
      refine g_is (ls' := [zR 81, zI l1, zI l2, zI l3, zI 0]) zp175 rfl rfl (Nat.le_of_ble_eq_true rfl) rfl ?_
      refine g_al zp175 rfl rfl rfl (by decide) ?_
      refine g_il zp175 rfl rfl rfl ?_
      refine g_if zp175 rfl rfl zc0 (fun c6 => ?_) (fun c6 => ?_)
      · refine g_ic zp175 rfl rfl ?_
        exact g_weak (ls' := [zR 81, zI l1, zI l2, zI l3, zJ]) ⟨Or.inr rfl, Or.inr rfl, Or.inr rfl, Or.inr rfl, Or.inl rfl, trivial⟩ h
      · exact absurd c6 (by decide)
    · replace h := h.2 c5
      refine g_il zp175 rfl rfl rfl ?_
      refine g_i2l zp175 rfl rfl ?_
      refine g_lc zp175 rfl rfl ?_
      refine g_lc zp175 rfl rfl ?_
      refine g_callI (as := [zL l3, zL 0, zL 1]) (rest := []) zp175 rfl rfl (Nat.succ_pos _) rfl rfl (Nat.le_of_ble_eq_true rfl) (Nat.le_of_ble_eq_true rfl) rfl rfl h (fun x8 H7 h => ?_)
      refine g_if zp175 rfl rfl zc0 (fun c9 => ?_) (fun c9 => ?_)
      · replace h := h.1 c9
        refine g_ic zp175 rfl rfl ?_
        refine g_is (ls' := [zR 81, zI l1, zI l2, zI l3, zI 0]) zp175 rfl rfl (Nat.le_of_ble_eq_true rfl) rfl ?_
        refine g_al zp175 rfl rfl rfl (by decide) ?_
        refine g_il zp175 rfl rfl rfl ?_
        refine g_if zp175 rfl rfl zc0 (fun c10 => ?_) (fun c10 => ?_)
        · refine g_ic zp175 rfl rfl ?_
          exact g_weak (ls' := [zR 81, zI l1, zI l2, zI l3, zJ]) ⟨Or.inr rfl, Or.inr rfl, Or.inr rfl, Or.inr rfl, Or.inl rfl, trivial⟩ h
        · exact absurd c10 (by decide)
      · replace h := h.2 c9
        refine g_ic zp175 rfl rfl ?_
        refine g_goto zp175 rfl ?_
        refine g_is (ls' := [zR 81, zI l1, zI l2, zI l3, zI 1]) zp175 rfl rfl (Nat.le_of_ble_eq_true rfl) rfl ?_
        refine g_al zp175 rfl rfl rfl (by decide) ?_
        refine g_il zp175 rfl rfl rfl ?_
        refine g_if zp175 rfl rfl zc0 (fun c11 => ?_) (fun c11 => ?_)
        · exact absurd c11 (by decide)
        · refine g_ic zp175 rfl rfl ?_
          refine g_goto zp175 rfl ?_
          exact g_weak (ls' := [zR 81, zI l1, zI l2, zI l3, zJ]) ⟨Or.inr rfl, Or.inr rfl, Or.inr rfl, Or.inr rfl, Or.inl rfl, trivial⟩ h
theorem x175_40 {w : zWt} {d : Nat} {H : zHt} {K : Int → zHt → Prop} {l1 : Int} {l2 : Int} {l3 : Int} {s1 : Int}
    (h : zclI w d 174 [zR 81, zI s1] H (fun x2 H1 => (¬ x2 = 0 → zclV w d 177 [zR 81, zI l1] H1 (fun H4 => (¬ l2 = (-1) → (l2 < (H4 81 8) → (¬ l3 = 0 → (0 ≤ l2 ∧ l2 < 10) ∧ K (H4 86 l2) H4) ∧ (l3 = 0 → (0 ≤ l2 ∧ l2 < 10) ∧ K (H4 85 l2) H4)) ∧ ((H4 81 8) ≤ l2 → zclI w d 178 [zR 81, zI 5] H4 (fun x12 H11 => K x12 H11))) ∧ (l2 = (-1) → K (H4 81 8) H4))) ∧ (x2 = 0 → K (-1) H1))) :
    zgo w (d + 1) 175 40 [zR 81, zI l1, zI l2, zI l3, zJ] [zI s1, zR 81] H (zQI K) := by
  refine g_callI (as := [zR 81, zI s1]) (rest := []) zp175 rfl rfl (Nat.succ_pos _) rfl rfl (Nat.le_of_ble_eq_true rfl) (Nat.le_of_ble_eq_true rfl) rfl rfl h (fun x2 H1 h => ?_)
  refine g_if zp175 rfl rfl zc1 (fun c3 => ?_) (fun c3 => ?_)
  · replace h := h.1 c3
    refine g_al zp175 rfl rfl rfl (by decide) ?_
    refine g_il zp175 rfl rfl rfl ?_
    refine g_callV (as := [zR 81, zI l1]) (rest := []) zp175 rfl rfl (Nat.succ_pos _) rfl rfl (Nat.le_of_ble_eq_true rfl) (Nat.le_of_ble_eq_true rfl) rfl rfl h (fun H4 h => ?_)
    refine g_il zp175 rfl rfl rfl ?_
    refine g_ic zp175 rfl rfl ?_
    refine g_icmp zp175 rfl rfl zc1 (fun c6 => ?_) (fun c6 => ?_)
    · replace h := h.1 c6
      refine g_il zp175 rfl rfl rfl ?_
      refine g_al zp175 rfl rfl rfl (by decide) ?_
      refine g_get (v := zI (H4 81 8)) zp175 rfl rfl rfl ⟨rfl, by decide, (by decide)⟩ rfl ?_
      refine g_icmp zp175 rfl rfl zc2 (fun c7 => ?_) (fun c7 => ?_)
      · replace h := h.1 c7
        refine g_il zp175 rfl rfl rfl ?_
        refine g_if zp175 rfl rfl zc1 (fun c8 => ?_) (fun c8 => ?_)
        · replace h := h.1 c8
          refine g_al zp175 rfl rfl rfl (by decide) ?_
          refine g_get (v := zR 86) zp175 rfl rfl rfl ⟨rfl, by decide, (by decide)⟩ rfl ?_
          refine g_il zp175 rfl rfl rfl ?_
          obtain ⟨c9, h⟩ := h
          refine g_ald (v := zI (H4 86 l2)) zp175 rfl rfl rfl rfl c9 rfl ?_
          exact g_ret zp175 rfl rfl ⟨_, rfl, h⟩
        · replace h := h.2 c8
          refine g_al zp175 rfl rfl rfl (by decide) ?_
          refine g_get (v := zR 85) zp175 rfl rfl rfl ⟨rfl, by decide, (by decide)⟩ rfl ?_
          refine g_il zp175 rfl rfl rfl ?_
          obtain ⟨c10, h⟩ := h
          refine g_ald (v := zI (H4 85 l2)) zp175 rfl rfl rfl rfl c10 rfl ?_
          refine g_goto zp175 rfl ?_
          exact g_ret zp175 rfl rfl ⟨_, rfl, h⟩
      · replace h := h.2 c7
        refine g_al zp175 rfl rfl rfl (by decide) ?_
        refine g_ic zp175 rfl rfl ?_
        refine g_callI (as := [zR 81, zI 5]) (rest := []) zp175 rfl rfl (Nat.succ_pos _) rfl rfl (Nat.le_of_ble_eq_true rfl) (Nat.le_of_ble_eq_true rfl) rfl rfl h (fun x12 H11 h => ?_)
        refine g_goto zp175 rfl ?_
        exact g_ret zp175 rfl rfl ⟨_, rfl, h⟩
    · replace h := h.2 c6
      refine g_al zp175 rfl rfl rfl (by decide) ?_
      refine g_get (v := zI (H4 81 8)) zp175 rfl rfl rfl ⟨rfl, by decide, (by decide)⟩ rfl ?_
      exact g_ret zp175 rfl rfl ⟨_, rfl, h⟩
  · replace h := h.2 c3
    refine g_ic zp175 rfl rfl ?_
    exact g_ret zp175 rfl rfl ⟨_, rfl, h⟩
theorem zp176 : zprog.getD 176 [] = zk176 := rfl
theorem x176_0 {w : zWt} {d : Nat} {H : zHt} {K : Int → zHt → Prop} {l0 : Int}
    (h : zclI w d 173 [zL l0, zL 1, zL 999999999] H (fun x2 H1 => (x2 = 0 ∨ x2 = 1) ∧ K x2 H1)) :
    zclI w (d + 1) 176 [zI l0] H K := by
  show zgo w (d + 1) 176 0 [zI l0] [] H (zQI K)
  refine g_il zp176 rfl rfl rfl ?_
  refine g_i2l zp176 rfl rfl ?_
  refine g_lc zp176 rfl rfl ?_
  refine g_lc zp176 rfl rfl ?_
  refine g_callI (as := [zL l0, zL 1, zL 999999999]) (rest := []) zp176 rfl rfl (Nat.succ_pos _) rfl rfl (Nat.le_of_ble_eq_true rfl) (Nat.le_of_ble_eq_true rfl) rfl rfl h (fun x2 H1 h => ?_)
  obtain ⟨c3, h⟩ := h
  exact g_ret zp176 rfl (zret_b c3) ⟨_, rfl, h⟩
theorem zp177 : zprog.getD 177 [] = zk177 := rfl
theorem x177_0 {w : zWt} {d : Nat} {H : zHt} {K : zHt → Prop} {l1 : Int}
    (h : zgo w d 177 9 [zR 81, zJ, zI l1, zI 2] [] (zup H 81 8 0) (zQV K)) :
    zclV w d 177 [zR 81, zI l1] H K := by
  show zgo w d 177 0 [zR 81, zI l1, zJ, zJ] [] H (zQV K)
  refine g_al zp177 rfl rfl rfl (by decide) ?_
  refine g_ic zp177 rfl rfl ?_
  refine g_putI zp177 rfl rfl rfl ⟨rfl, by decide, (by decide)⟩ rfl rfl ?_
  refine g_il zp177 rfl rfl rfl ?_
  refine g_is (ls' := [zR 81, zI l1, zI l1, zJ]) zp177 rfl rfl (Nat.le_of_ble_eq_true rfl) rfl ?_
  refine g_ic zp177 rfl rfl ?_
  refine g_is (ls' := [zR 81, zI l1, zI l1, zI 2]) zp177 rfl rfl (Nat.le_of_ble_eq_true rfl) rfl ?_
  exact g_weak (ls' := [zR 81, zJ, zI l1, zI 2]) ⟨Or.inr rfl, Or.inl rfl, Or.inr rfl, Or.inr rfl, trivial⟩ h
theorem x177_9 {w : zWt} {d : Nat} {H : zHt} {K : zHt → Prop} {l2 : Int} {l3 : Int}
    (h : (l2 < (w64 (l3 * l3)) → (¬ l2 = 1 → (0 ≤ (H 81 8) ∧ (H 81 8) < 10) ∧ K (zup (zup (zup H 85 (H 81 8) l2) 86 (H 81 8) 1) 81 8 (w32 ((H 81 8) + 1)))) ∧ (l2 = 1 → K H)) ∧ ((w64 (l3 * l3)) ≤ l2 → (l3 ≠ 0) ∧ ((Int.tmod l2 l3) = 0 → (0 ≤ (H 81 8) ∧ (H 81 8) < 10) ∧ zgo w d 177 49 [zR 81, zJ, zI l2, zI l3] [] (zup (zup H 85 (H 81 8) l3) 86 (H 81 8) 0) (zQV K)) ∧ (¬ (Int.tmod l2 l3) = 0 → (¬ l3 = 2 → zgo w d 177 9 [zR 81, zJ, zI l2, zI (w32 (l3 + 2))] [] H (zQV K)) ∧ (l3 = 2 → zgo w d 177 9 [zR 81, zJ, zI l2, zI (w32 (l3 + 1))] [] H (zQV K))))) :
    zgo w d 177 9 [zR 81, zJ, zI l2, zI l3] [] H (zQV K) := by
  refine g_il zp177 rfl rfl rfl ?_
  refine g_i2l zp177 rfl rfl ?_
  refine g_il zp177 rfl rfl rfl ?_
  refine g_i2l zp177 rfl rfl ?_
  refine g_lar (r := w64 (l3 * l3)) zp177 rfl rfl rfl ?_
  refine g_il zp177 rfl rfl rfl ?_
  refine g_i2l zp177 rfl rfl ?_
  refine g_lcmp zp177 rfl rfl rfl rfl zc4 (fun c1 => ?_) (fun c1 => ?_)
  · replace h := h.1 c1
    refine g_il zp177 rfl rfl rfl ?_
    refine g_ic zp177 rfl rfl ?_
    refine g_icmp zp177 rfl rfl zc1 (fun c2 => ?_) (fun c2 => ?_)
    · replace h := h.1 c2
      refine g_al zp177 rfl rfl rfl (by decide) ?_
      refine g_get (v := zR 85) zp177 rfl rfl rfl ⟨rfl, by decide, (by decide)⟩ rfl ?_
      refine g_al zp177 rfl rfl rfl (by decide) ?_
      refine g_get (v := zI (H 81 8)) zp177 rfl rfl rfl ⟨rfl, by decide, (by decide)⟩ rfl ?_
      refine g_il zp177 rfl rfl rfl ?_
      obtain ⟨c3, h⟩ := h
      refine g_iast zp177 rfl rfl rfl (by decide) rfl c3 ?_
      refine g_al zp177 rfl rfl rfl (by decide) ?_
      refine g_get (v := zR 86) zp177 rfl rfl rfl ⟨rfl, by decide, (by decide)⟩ rfl ?_
      refine g_al zp177 rfl rfl rfl (by decide) ?_
      refine g_get (v := zI (H 81 8)) zp177 rfl rfl rfl ⟨rfl, by decide, (by decide)⟩ rfl ?_
      refine g_ic zp177 rfl rfl ?_
      refine g_iast zp177 rfl rfl rfl (by decide) rfl c3 ?_
      refine g_al zp177 rfl rfl rfl (by decide) ?_
      refine g_dup zp177 rfl rfl rfl ?_
      refine g_get (v := zI (H 81 8)) zp177 rfl rfl rfl ⟨rfl, by decide, (by decide)⟩ rfl ?_
      refine g_ic zp177 rfl rfl ?_
      refine g_ar (r := w32 ((H 81 8) + 1)) zp177 rfl rfl rfl ?_
      refine g_putI zp177 rfl rfl rfl ⟨rfl, by decide, (by decide)⟩ rfl rfl ?_
      exact g_ret zp177 rfl rfl ⟨rfl, h⟩
    · replace h := h.2 c2
      exact g_ret zp177 rfl rfl ⟨rfl, h⟩
  · replace h := h.2 c1
    refine g_il zp177 rfl rfl rfl ?_
    refine g_il zp177 rfl rfl rfl ?_
    obtain ⟨c4, h⟩ := h
    refine g_ar (r := Int.tmod l2 l3) zp177 rfl rfl (zr_rem c4) ?_
    refine g_if zp177 rfl rfl zc0 (fun c5 => ?_) (fun c5 => ?_)
    · replace h := h.1 c5
      refine g_al zp177 rfl rfl rfl (by decide) ?_
      refine g_get (v := zR 85) zp177 rfl rfl rfl ⟨rfl, by decide, (by decide)⟩ rfl ?_
      refine g_al zp177 rfl rfl rfl (by decide) ?_
      refine g_get (v := zI (H 81 8)) zp177 rfl rfl rfl ⟨rfl, by decide, (by decide)⟩ rfl ?_
      refine g_il zp177 rfl rfl rfl ?_
      obtain ⟨c6, h⟩ := h
      refine g_iast zp177 rfl rfl rfl (by decide) rfl c6 ?_
      refine g_al zp177 rfl rfl rfl (by decide) ?_
      refine g_get (v := zR 86) zp177 rfl rfl rfl ⟨rfl, by decide, (by decide)⟩ rfl ?_
      refine g_al zp177 rfl rfl rfl (by decide) ?_
      refine g_get (v := zI (H 81 8)) zp177 rfl rfl rfl ⟨rfl, by decide, (by decide)⟩ rfl ?_
      refine g_ic zp177 rfl rfl ?_
      refine g_iast zp177 rfl rfl rfl (by decide) rfl c6 ?_
      exact g_weak (ls' := [zR 81, zJ, zI l2, zI l3]) ⟨Or.inr rfl, Or.inr rfl, Or.inr rfl, Or.inr rfl, trivial⟩ h
    · replace h := h.2 c5
      refine g_goto zp177 rfl ?_
      refine g_il zp177 rfl rfl rfl ?_
      refine g_il zp177 rfl rfl rfl ?_
      refine g_ic zp177 rfl rfl ?_
      refine g_icmp zp177 rfl rfl zc1 (fun c7 => ?_) (fun c7 => ?_)
      · replace h := h.1 c7
        refine g_ic zp177 rfl rfl ?_
        refine g_ar (r := w32 (l3 + 2)) zp177 rfl rfl rfl ?_
        refine g_is (ls' := [zR 81, zJ, zI l2, zI (w32 (l3 + 2))]) zp177 rfl rfl (Nat.le_of_ble_eq_true rfl) rfl ?_
        refine g_goto zp177 rfl ?_
        exact g_weak (ls' := [zR 81, zJ, zI l2, zI (w32 (l3 + 2))]) ⟨Or.inr rfl, Or.inr rfl, Or.inr rfl, Or.inr rfl, trivial⟩ h
      · replace h := h.2 c7
        refine g_ic zp177 rfl rfl ?_
        refine g_goto zp177 rfl ?_
        refine g_ar (r := w32 (l3 + 1)) zp177 rfl rfl rfl ?_
        refine g_is (ls' := [zR 81, zJ, zI l2, zI (w32 (l3 + 1))]) zp177 rfl rfl (Nat.le_of_ble_eq_true rfl) rfl ?_
        refine g_goto zp177 rfl ?_
        exact g_weak (ls' := [zR 81, zJ, zI l2, zI (w32 (l3 + 1))]) ⟨Or.inr rfl, Or.inr rfl, Or.inr rfl, Or.inr rfl, trivial⟩ h
theorem x177_49 {w : zWt} {d : Nat} {H : zHt} {K : zHt → Prop} {l2 : Int} {l3 : Int}
    (h : (l3 ≠ 0) ∧ (¬ (Int.tmod l2 l3) = 0 → (¬ l3 = 2 → zgo w d 177 9 [zR 81, zJ, zI l2, zI (w32 (l3 + 2))] [] (zup H 81 8 (w32 ((H 81 8) + 1))) (zQV K)) ∧ (l3 = 2 → zgo w d 177 9 [zR 81, zJ, zI l2, zI (w32 (l3 + 1))] [] (zup H 81 8 (w32 ((H 81 8) + 1))) (zQV K))) ∧ ((Int.tmod l2 l3) = 0 → (0 ≤ (H 81 8) ∧ (H 81 8) < 10) ∧ zgo w d 177 49 [zR 81, zJ, zI (w32 (Int.tdiv l2 l3)), zI l3] [] (zup H 86 (H 81 8) (w32 ((H 86 (H 81 8)) + 1))) (zQV K))) :
    zgo w d 177 49 [zR 81, zJ, zI l2, zI l3] [] H (zQV K) := by
  refine g_il zp177 rfl rfl rfl ?_
  refine g_il zp177 rfl rfl rfl ?_
  obtain ⟨c1, h⟩ := h
  refine g_ar (r := Int.tmod l2 l3) zp177 rfl rfl (zr_rem c1) ?_
  refine g_if zp177 rfl rfl zc1 (fun c2 => ?_) (fun c2 => ?_)
  · replace h := h.1 c2
    refine g_al zp177 rfl rfl rfl (by decide) ?_
    refine g_dup zp177 rfl rfl rfl ?_
    refine g_get (v := zI (H 81 8)) zp177 rfl rfl rfl ⟨rfl, by decide, (by decide)⟩ rfl ?_
    refine g_ic zp177 rfl rfl ?_
    refine g_ar (r := w32 ((H 81 8) + 1)) zp177 rfl rfl rfl ?_
    refine g_putI zp177 rfl rfl rfl ⟨rfl, by decide, (by decide)⟩ rfl rfl ?_
    refine g_il zp177 rfl rfl rfl ?_
    refine g_il zp177 rfl rfl rfl ?_
    refine g_ic zp177 rfl rfl ?_
    refine g_icmp zp177 rfl rfl zc1 (fun c3 => ?_) (fun c3 => ?_)
    · replace h := h.1 c3
      refine g_ic zp177 rfl rfl ?_
      refine g_ar (r := w32 (l3 + 2)) zp177 rfl rfl rfl ?_
      refine g_is (ls' := [zR 81, zJ, zI l2, zI (w32 (l3 + 2))]) zp177 rfl rfl (Nat.le_of_ble_eq_true rfl) rfl ?_
      refine g_goto zp177 rfl ?_
      exact g_weak (ls' := [zR 81, zJ, zI l2, zI (w32 (l3 + 2))]) ⟨Or.inr rfl, Or.inr rfl, Or.inr rfl, Or.inr rfl, trivial⟩ h
    · replace h := h.2 c3
      refine g_ic zp177 rfl rfl ?_
      refine g_goto zp177 rfl ?_
      refine g_ar (r := w32 (l3 + 1)) zp177 rfl rfl rfl ?_
      refine g_is (ls' := [zR 81, zJ, zI l2, zI (w32 (l3 + 1))]) zp177 rfl rfl (Nat.le_of_ble_eq_true rfl) rfl ?_
      refine g_goto zp177 rfl ?_
      exact g_weak (ls' := [zR 81, zJ, zI l2, zI (w32 (l3 + 1))]) ⟨Or.inr rfl, Or.inr rfl, Or.inr rfl, Or.inr rfl, trivial⟩ h
  · replace h := h.2 c2
    refine g_al zp177 rfl rfl rfl (by decide) ?_
    refine g_get (v := zR 86) zp177 rfl rfl rfl ⟨rfl, by decide, (by decide)⟩ rfl ?_
    refine g_al zp177 rfl rfl rfl (by decide) ?_
    refine g_get (v := zI (H 81 8)) zp177 rfl rfl rfl ⟨rfl, by decide, (by decide)⟩ rfl ?_
    refine g_dup2 zp177 rfl rfl (fun q => by cases q) rfl ?_
    obtain ⟨c4, h⟩ := h
    refine g_ald (v := zI (H 86 (H 81 8))) zp177 rfl rfl rfl rfl c4 rfl ?_
    refine g_ic zp177 rfl rfl ?_
    refine g_ar (r := w32 ((H 86 (H 81 8)) + 1)) zp177 rfl rfl rfl ?_
    refine g_iast zp177 rfl rfl rfl (by decide) rfl c4 ?_
    refine g_il zp177 rfl rfl rfl ?_
    refine g_il zp177 rfl rfl rfl ?_
    refine g_ar (r := w32 (Int.tdiv l2 l3)) zp177 rfl rfl (zr_div c1) ?_
    refine g_is (ls' := [zR 81, zJ, zI (w32 (Int.tdiv l2 l3)), zI l3]) zp177 rfl rfl (Nat.le_of_ble_eq_true rfl) rfl ?_
    refine g_goto zp177 rfl ?_
    exact g_weak (ls' := [zR 81, zJ, zI (w32 (Int.tdiv l2 l3)), zI l3]) ⟨Or.inr rfl, Or.inr rfl, Or.inr rfl, Or.inr rfl, trivial⟩ h
theorem zp178 : zprog.getD 178 [] = zk178 := rfl
theorem x178_0 {w : zWt} {d : Nat} {H : zHt} {K : Int → zHt → Prop} {l1 : Int}
    (h : K (-1) (zup H 81 0 l1)) :
    zclI w d 178 [zR 81, zI l1] H K := by
  show zgo w d 178 0 [zR 81, zI l1] [] H (zQI K)
  refine g_al zp178 rfl rfl rfl (by decide) ?_
  refine g_il zp178 rfl rfl rfl ?_
  refine g_putI zp178 rfl rfl rfl ⟨rfl, by decide, (by decide)⟩ rfl rfl ?_
  refine g_ic zp178 rfl rfl ?_
  exact g_ret zp178 rfl rfl ⟨_, rfl, h⟩
