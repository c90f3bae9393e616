/-! segments: what suffices for a run from there on (by wip/whole/gen3.py) -/
theorem zp179 : zprog.getD 179 [] = zk179 := rfl
theorem x179_0 {w : zWt} {d : Nat} {H : zHt} {K : Int → zHt → Prop} {l1 : Int}
    (h : zclI w d 176 [zI l1] H (fun x2 H1 => (x2 = 0 → zclI w d 174 [zR 81, zI 1] H1 (fun x5 H4 => (x5 = 0 → K (-1) H4) ∧ (¬ x5 = 0 → zclL w d 180 [zR 81, zI l1] H4 (fun x8 H7 => K x8 H7)))) ∧ (¬ x2 = 0 → zclI w d 174 [zR 81, zI 0] H1 (fun x10 H9 => (x10 = 0 → K (-1) H9) ∧ (¬ x10 = 0 → zclL w d 180 [zR 81, zI l1] H9 (fun x13 H12 => K x13 H12)))))) :
    zclL w (d + 1) 179 [zR 81, zI l1] H K := by
  show zgo w (d + 1) 179 0 [zR 81, zI l1] [] H (zQL K)
  refine g_al zp179 rfl rfl rfl (by decide) ?_
  refine g_il zp179 rfl rfl rfl ?_
  refine g_callI (as := [zI l1]) (rest := [zR 81]) zp179 rfl rfl (Nat.succ_pos _) rfl rfl (Nat.le_of_ble_eq_true rfl) (Nat.le_of_ble_eq_true rfl) rfl rfl h (fun x2 H1 h => ?_)
  refine g_if zp179 rfl rfl zc0 (fun c3 => ?_) (fun c3 => ?_)
  · replace h := h.1 c3
    refine g_ic zp179 rfl rfl ?_
    refine g_callI (as := [zR 81, zI 1]) (rest := []) zp179 rfl rfl (Nat.succ_pos _) rfl rfl (Nat.le_of_ble_eq_true rfl) (Nat.le_of_ble_eq_true rfl) rfl rfl h (fun x5 H4 h => ?_)
    refine g_if zp179 rfl rfl zc0 (fun c6 => ?_) (fun c6 => ?_)
    · replace h := h.1 c6
      refine g_lc zp179 rfl rfl ?_
      exact g_ret zp179 rfl rfl ⟨_, rfl, h⟩
    · replace h := h.2 c6
      refine g_al zp179 rfl rfl rfl (by decide) ?_
      refine g_il zp179 rfl rfl rfl ?_
      refine g_callL (as := [zR 81, zI l1]) (rest := []) zp179 rfl rfl (Nat.succ_pos _) rfl rfl (Nat.le_of_ble_eq_true rfl) (Nat.le_of_ble_eq_true rfl) rfl rfl h (fun x8 H7 h => ?_)
      refine g_goto zp179 rfl ?_
      exact g_ret zp179 rfl rfl ⟨_, rfl, h⟩
  · replace h := h.2 c3
    refine g_ic zp179 rfl rfl ?_
    refine g_goto zp179 rfl ?_
    refine g_callI (as := [zR 81, zI 0]) (rest := []) zp179 rfl rfl (Nat.succ_pos _) rfl rfl (Nat.le_of_ble_eq_true rfl) (Nat.le_of_ble_eq_true rfl) rfl rfl h (fun x10 H9 h => ?_)
    refine g_if zp179 rfl rfl zc0 (fun c11 => ?_) (fun c11 => ?_)
    · replace h := h.1 c11
      refine g_lc zp179 rfl rfl ?_
      exact g_ret zp179 rfl rfl ⟨_, rfl, h⟩
    · replace h := h.2 c11
      refine g_al zp179 rfl rfl rfl (by decide) ?_
      refine g_il zp179 rfl rfl rfl ?_
      refine g_callL (as := [zR 81, zI l1]) (rest := []) zp179 rfl rfl (Nat.succ_pos _) rfl rfl (Nat.le_of_ble_eq_true rfl) (Nat.le_of_ble_eq_true rfl) rfl rfl h (fun x13 H12 h => ?_)
      refine g_goto zp179 rfl ?_
      exact g_ret zp179 rfl rfl ⟨_, rfl, h⟩
theorem zp180 : zprog.getD 180 [] = zk180 := rfl
theorem x180_0 {w : zWt} {d : Nat} {H : zHt} {K : Int → zHt → Prop} {l1 : Int}
    (h : zclL w d 181 [zR 81, zI l1, zI (H 82 9)] H (fun x2 H1 => K x2 H1)) :
    zclL w (d + 1) 180 [zR 81, zI l1] H K := by
  show zgo w (d + 1) 180 0 [zR 81, zI l1] [] H (zQL K)
  refine g_al zp180 rfl rfl rfl (by decide) ?_
  refine g_il zp180 rfl rfl rfl ?_
  refine g_al zp180 rfl rfl rfl (by decide) ?_
  refine g_get (v := zR 82) zp180 rfl rfl rfl ⟨rfl, by decide, (by decide)⟩ rfl ?_
  refine g_ic zp180 rfl rfl ?_
  refine g_ald (v := zI (H 82 9)) zp180 rfl rfl rfl rfl (by decide) rfl ?_
  refine g_callL (as := [zR 81, zI l1, zI (H 82 9)]) (rest := []) zp180 rfl rfl (Nat.succ_pos _) rfl rfl (Nat.le_of_ble_eq_true rfl) (Nat.le_of_ble_eq_true rfl) rfl rfl h (fun x2 H1 h => ?_)
  exact g_ret zp180 rfl rfl ⟨_, rfl, h⟩
theorem zp181 : zprog.getD 181 [] = zk181 := rfl
theorem x181_0 {w : zWt} {d : Nat} {H : zHt} {K : Int → zHt → Prop} {l1 : Int} {l2 : Int}
    (h : (¬ l1 = 1 → zclL w d 182 [zR 81, zI l1] H (fun x3 H2 => (l2 = 0 → (¬ l2 = 0 → K (w64 ((w64 (x3 - l1)) - 1)) H2) ∧ (l2 = 0 → K (w64 (x3 - l1)) H2)) ∧ (¬ l2 = 0 → (¬ l2 = 2 → zgo w (d + 1) 181 46 [zR 81, zI l1, zI l2, zJ, zJ, zL 1, zJ, zI 1, zI 0] [] H2 (zQL K)) ∧ (l2 = 2 → (¬ l2 = 0 → K (w64 ((w64 (x3 - l1)) - 1)) H2) ∧ (l2 = 0 → K (w64 (x3 - l1)) H2))))) ∧ (l1 = 1 → K 0 H)) :
    zclL w (d + 1) 181 [zR 81, zI l1, zI l2] H K := by
  show zgo w (d + 1) 181 0 [zR 81, zI l1, zI l2, zJ, zJ, zJ, zJ, zJ, zJ] [] H (zQL K)
  refine g_il zp181 rfl rfl rfl ?_
  refine g_ic zp181 rfl rfl ?_
  refine g_icmp zp181 rfl rfl zc1 (fun c1 => ?_) (fun c1 => ?_)
  · replace h := h.1 c1
    refine g_al zp181 rfl rfl rfl (by decide) ?_
    refine g_il zp181 rfl rfl rfl ?_
    refine g_callL (as := [zR 81, zI l1]) (rest := []) zp181 rfl rfl (Nat.succ_pos _) rfl rfl (Nat.le_of_ble_eq_true rfl) (Nat.le_of_ble_eq_true rfl) rfl rfl h (fun x3 H2 h => ?_)
    refine g_il zp181 rfl rfl rfl ?_
    refine g_i2l zp181 rfl rfl ?_
    refine g_lar (r := w64 (x3 - l1)) zp181 rfl rfl rfl ?_
    refine g_ls (ls' := [zR 81, zI l1, zI l2, zL (w64 (x3 - l1)), zJ, zJ, zJ, zJ, zJ]) zp181 rfl rfl (Nat.le_of_ble_eq_true rfl) rfl ?_
    refine g_il zp181 rfl rfl rfl ?_
    refine g_if zp181 rfl rfl zc0 (fun c4 => ?_) (fun c4 => ?_)
    · replace h := h.1 c4
      refine g_il zp181 rfl rfl rfl ?_
      refine g_if zp181 rfl rfl zc1 (fun c5 => ?_) (fun c5 => ?_)
      · replace h := h.1 c5
        refine g_ll zp181 rfl rfl rfl ?_
        refine g_lc zp181 rfl rfl ?_
        refine g_lar (r := w64 ((w64 (x3 - l1)) - 1)) zp181 rfl rfl rfl ?_
        exact g_ret zp181 rfl rfl ⟨_, rfl, h⟩
      · replace h := h.2 c5
        refine g_ll zp181 rfl rfl rfl ?_
        refine g_goto zp181 rfl ?_
        exact g_ret zp181 rfl rfl ⟨_, rfl, h⟩
    · replace h := h.2 c4
      refine g_il zp181 rfl rfl rfl ?_
      refine g_ic zp181 rfl rfl ?_
      refine g_icmp zp181 rfl rfl zc1 (fun c6 => ?_) (fun c6 => ?_)
      · replace h := h.1 c6
        refine g_lc zp181 rfl rfl ?_
        refine g_ls (ls' := [zR 81, zI l1, zI l2, zL (w64 (x3 - l1)), zJ, zL 1, zJ, zJ, zJ]) zp181 rfl rfl (Nat.le_of_ble_eq_true rfl) rfl ?_
        refine g_ic zp181 rfl rfl ?_
        refine g_is (ls' := [zR 81, zI l1, zI l2, zL (w64 (x3 - l1)), zJ, zL 1, zJ, zI 1, zJ]) zp181 rfl rfl (Nat.le_of_ble_eq_true rfl) rfl ?_
        refine g_ic zp181 rfl rfl ?_
        refine g_is (ls' := [zR 81, zI l1, zI l2, zL (w64 (x3 - l1)), zJ, zL 1, zJ, zI 1, zI 0]) zp181 rfl rfl (Nat.le_of_ble_eq_true rfl) rfl ?_
        exact g_weak (ls' := [zR 81, zI l1, zI l2, zJ, zJ, zL 1, zJ, zI 1, zI 0]) ⟨Or.inr rfl, Or.inr rfl, Or.inr rfl, Or.inl rfl, Or.inr rfl, Or.inr rfl, Or.inr rfl, Or.inr rfl, Or.inr rfl, trivial⟩ h
      · replace h := h.2 c6
        refine g_il zp181 rfl rfl rfl ?_
        refine g_if zp181 rfl rfl zc1 (fun c7 => ?_) (fun c7 => ?_)
        · replace h := h.1 c7
          refine g_ll zp181 rfl rfl rfl ?_
          refine g_lc zp181 rfl rfl ?_
          refine g_lar (r := w64 ((w64 (x3 - l1)) - 1)) zp181 rfl rfl rfl ?_
          exact g_ret zp181 rfl rfl ⟨_, rfl, h⟩
        · replace h := h.2 c7
          refine g_ll zp181 rfl rfl rfl ?_
          refine g_goto zp181 rfl ?_
          exact g_ret zp181 rfl rfl ⟨_, rfl, h⟩
  · replace h := h.2 c1
    refine g_lc zp181 rfl rfl ?_
    exact g_ret zp181 rfl rfl ⟨_, rfl, h⟩
theorem x181_46 {w : zWt} {d : Nat} {H : zHt} {K : Int → zHt → Prop} {l1 : Int} {l2 : Int} {l5 : Int} {l7 : Int} {l8 : Int}
    (h : ((H 81 8) ≤ l8 → (l2 = 1 → K (w64 (l5 - l1)) H) ∧ (¬ l2 = 1 → (l7 = 0 → K l5 H) ∧ (¬ l7 = 0 → K (w64 (l5 - l1)) H))) ∧ (l8 < (H 81 8) → (¬ l2 = 1 → (0 ≤ l8 ∧ l8 < 10) ∧ (l7 = 0 → zgo w (d + 1) 181 46 [zR 81, zI l1, zI l2, zJ, zJ, zL (w64 (l5 * (w64 (1 + (H 85 l8))))), zJ, zI 0, zI (w32 (l8 + 1))] [] H (zQL K)) ∧ (¬ l7 = 0 → (¬ (H 86 l8) = 1 → zgo w (d + 1) 181 46 [zR 81, zI l1, zI l2, zJ, zJ, zL (w64 (l5 * (w64 (1 + (H 85 l8))))), zJ, zI 0, zI (w32 (l8 + 1))] [] H (zQL K)) ∧ ((H 86 l8) = 1 → zgo w (d + 1) 181 46 [zR 81, zI l1, zI l2, zJ, zJ, zL (w64 (l5 * (w64 (1 + (H 85 l8))))), zJ, zI 1, zI (w32 (l8 + 1))] [] H (zQL K)))) ∧ (l2 = 1 → (0 ≤ l8 ∧ l8 < 10) ∧ zclL w d 184 [zI (H 85 l8), zI (H 86 l8)] H (fun x10 H9 => (l7 = 0 → zgo w (d + 1) 181 46 [zR 81, zI l1, zI l2, zJ, zJ, zL (w64 (l5 * (w64 (1 + x10)))), zJ, zI 0, zI (w32 (l8 + 1))] [] H9 (zQL K)) ∧ (¬ l7 = 0 → (¬ (H9 86 l8) = 1 → zgo w (d + 1) 181 46 [zR 81, zI l1, zI l2, zJ, zJ, zL (w64 (l5 * (w64 (1 + x10)))), zJ, zI 0, zI (w32 (l8 + 1))] [] H9 (zQL K)) ∧ ((H9 86 l8) = 1 → zgo w (d + 1) 181 46 [zR 81, zI l1, zI l2, zJ, zJ, zL (w64 (l5 * (w64 (1 + x10)))), zJ, zI 1, zI (w32 (l8 + 1))] [] H9 (zQL K))))))) :
    zgo w (d + 1) 181 46 [zR 81, zI l1, zI l2, zJ, zJ, zL l5, zJ, zI l7, zI l8] [] H (zQL K) := by
  refine g_il zp181 rfl rfl rfl ?_
  refine g_al zp181 rfl rfl rfl (by decide) ?_
  refine g_get (v := zI (H 81 8)) zp181 rfl rfl rfl ⟨rfl, by decide, (by decide)⟩ rfl ?_
  refine g_icmp zp181 rfl rfl zc3 (fun c1 => ?_) (fun c1 => ?_)
  · replace h := h.1 c1
    refine g_il zp181 rfl rfl rfl ?_
    refine g_ic zp181 rfl rfl ?_
    refine g_icmp zp181 rfl rfl zc0 (fun c2 => ?_) (fun c2 => ?_)
    · replace h := h.1 c2
      refine g_ll zp181 rfl rfl rfl ?_
      refine g_il zp181 rfl rfl rfl ?_
      refine g_i2l zp181 rfl rfl ?_
      refine g_lar (r := w64 (l5 - l1)) zp181 rfl rfl rfl ?_
      refine g_goto zp181 rfl ?_
      exact g_ret zp181 rfl rfl ⟨_, rfl, h⟩
    · replace h := h.2 c2
      refine g_il zp181 rfl rfl rfl ?_
      refine g_if zp181 rfl rfl zc0 (fun c3 => ?_) (fun c3 => ?_)
      · replace h := h.1 c3
        refine g_ll zp181 rfl rfl rfl ?_
        exact g_ret zp181 rfl rfl ⟨_, rfl, h⟩
      · replace h := h.2 c3
        refine g_ll zp181 rfl rfl rfl ?_
        refine g_il zp181 rfl rfl rfl ?_
        refine g_i2l zp181 rfl rfl ?_
        refine g_lar (r := w64 (l5 - l1)) zp181 rfl rfl rfl ?_
        refine g_goto zp181 rfl ?_
        exact g_ret zp181 rfl rfl ⟨_, rfl, h⟩
  · replace h := h.2 c1
    refine g_ll zp181 rfl rfl rfl ?_
    refine g_il zp181 rfl rfl rfl ?_
    refine g_ic zp181 rfl rfl ?_
    refine g_icmp zp181 rfl rfl zc1 (fun c4 => ?_) (fun c4 => ?_)
    · replace h := h.1 c4
      refine g_lc zp181 rfl rfl ?_
      refine g_al zp181 rfl rfl rfl (by decide) ?_
      refine g_get (v := zR 85) zp181 rfl rfl rfl ⟨rfl, by decide, (by decide)⟩ rfl ?_
      refine g_il zp181 rfl rfl rfl ?_
      obtain ⟨c5, h⟩ := h
      refine g_ald (v := zI (H 85 l8)) zp181 rfl rfl rfl rfl c5 rfl ?_
      refine g_i2l zp181 rfl rfl ?_
      refine g_lar (r := w64 (1 + (H 85 l8))) zp181 rfl rfl rfl ?_
      refine g_lar (r := w64 (l5 * (w64 (1 + (H 85 l8))))) zp181 rfl rfl rfl ?_
      refine g_ls (ls' := [zR 81, zI l1, zI l2, zJ, zJ, zL (w64 (l5 * (w64 (1 + (H 85 l8))))), zJ, zI l7, zI l8]) zp181 rfl rfl (Nat.le_of_ble_eq_true rfl) rfl ?_
      refine g_il zp181 rfl rfl rfl ?_
      refine g_if zp181 rfl rfl zc0 (fun c6 => ?_) (fun c6 => ?_)
      · replace h := h.1 c6
        refine g_ic zp181 rfl rfl ?_
        refine g_is (ls' := [zR 81, zI l1, zI l2, zJ, zJ, zL (w64 (l5 * (w64 (1 + (H 85 l8))))), zJ, zI 0, zI l8]) zp181 rfl rfl (Nat.le_of_ble_eq_true rfl) rfl ?_
        refine g_inc (ls' := [zR 81, zI l1, zI l2, zJ, zJ, zL (w64 (l5 * (w64 (1 + (H 85 l8))))), zJ, zI 0, zI (w32 (l8 + 1))]) zp181 rfl rfl rfl rfl ?_
        refine g_goto zp181 rfl ?_
        exact g_weak (ls' := [zR 81, zI l1, zI l2, zJ, zJ, zL (w64 (l5 * (w64 (1 + (H 85 l8))))), zJ, zI 0, zI (w32 (l8 + 1))]) ⟨Or.inr rfl, Or.inr rfl, Or.inr rfl, Or.inr rfl, Or.inr rfl, Or.inr rfl, Or.inr rfl, Or.inr rfl, Or.inr rfl, trivial⟩ h
      · replace h := h.2 c6
        refine g_al zp181 rfl rfl rfl (by decide) ?_
        refine g_get (v := zR 86) zp181 rfl rfl rfl ⟨rfl, by decide, (by decide)⟩ rfl ?_
        refine g_il zp181 rfl rfl rfl ?_
        refine g_ald (v := zI (H 86 l8)) zp181 rfl rfl rfl rfl c5 rfl ?_
        refine g_ic zp181 rfl rfl ?_
        refine g_icmp zp181 rfl rfl zc1 (fun c7 => ?_) (fun c7 => ?_)
        · replace h := h.1 c7
          refine g_ic zp181 rfl rfl ?_
          refine g_is (ls' := [zR 81, zI l1, zI l2, zJ, zJ, zL (w64 (l5 * (w64 (1 + (H 85 l8))))), zJ, zI 0, zI l8]) zp181 rfl rfl (Nat.le_of_ble_eq_true rfl) rfl ?_
          refine g_inc (ls' := [zR 81, zI l1, zI l2, zJ, zJ, zL (w64 (l5 * (w64 (1 + (H 85 l8))))), zJ, zI 0, zI (w32 (l8 + 1))]) zp181 rfl rfl rfl rfl ?_
          refine g_goto zp181 rfl ?_
          exact g_weak (ls' := [zR 81, zI l1, zI l2, zJ, zJ, zL (w64 (l5 * (w64 (1 + (H 85 l8))))), zJ, zI 0, zI (w32 (l8 + 1))]) ⟨Or.inr rfl, Or.inr rfl, Or.inr rfl, Or.inr rfl, Or.inr rfl, Or.inr rfl, Or.inr rfl, Or.inr rfl, Or.inr rfl, trivial⟩ h
        · replace h := h.2 c7
          refine g_ic zp181 rfl rfl ?_
          refine g_goto zp181 rfl ?_
          refine g_is (ls' := [zR 81, zI l1, zI l2, zJ, zJ, zL (w64 (l5 * (w64 (1 + (H 85 l8))))), zJ, zI 1, zI l8]) zp181 rfl rfl (Nat.le_of_ble_eq_true rfl) rfl ?_
          refine g_inc (ls' := [zR 81, zI l1, zI l2, zJ, zJ, zL (w64 (l5 * (w64 (1 + (H 85 l8))))), zJ, zI 1, zI (w32 (l8 + 1))]) zp181 rfl rfl rfl rfl ?_
          refine g_goto zp181 rfl ?_
          exact g_weak (ls' := [zR 81, zI l1, zI l2, zJ, zJ, zL (w64 (l5 * (w64 (1 + (H 85 l8))))), zJ, zI 1, zI (w32 (l8 + 1))]) ⟨Or.inr rfl, Or.inr rfl, Or.inr rfl, Or.inr rfl, Or.inr rfl, Or.inr rfl, Or.inr rfl, Or.inr rfl, Or.inr rfl, trivial⟩ h
    · replace h := h.2 c4
      refine g_lc zp181 rfl rfl ?_
      refine g_al zp181 rfl rfl rfl (by decide) ?_
      refine g_get (v := zR 85) zp181 rfl rfl rfl ⟨rfl, by decide, (by decide)⟩ rfl ?_
      refine g_il zp181 rfl rfl rfl ?_
      obtain ⟨c8, h⟩ := h
      refine g_ald (v := zI (H 85 l8)) zp181 rfl rfl rfl rfl c8 rfl ?_
      refine g_al zp181 rfl rfl rfl (by decide) ?_
      refine g_get (v := zR 86) zp181 rfl rfl rfl ⟨rfl, by decide, (by decide)⟩ rfl ?_
      refine g_il zp181 rfl rfl rfl ?_
      refine g_ald (v := zI (H 86 l8)) zp181 rfl rfl rfl rfl c8 rfl ?_
      refine g_callL (as := [zI (H 85 l8), zI (H 86 l8)]) (rest := [zL 1, zL l5]) zp181 rfl rfl (Nat.succ_pos _) rfl rfl (Nat.le_of_ble_eq_true rfl) (Nat.le_of_ble_eq_true rfl) rfl rfl h (fun x10 H9 h => ?_)
      refine g_lar (r := w64 (1 + x10)) zp181 rfl rfl rfl ?_
      refine g_goto zp181 rfl ?_
      refine g_lar (r := w64 (l5 * (w64 (1 + x10)))) zp181 rfl rfl rfl ?_
      refine g_ls (ls' := [zR 81, zI l1, zI l2, zJ, zJ, zL (w64 (l5 * (w64 (1 + x10)))), zJ, zI l7, zI l8]) zp181 rfl rfl (Nat.le_of_ble_eq_true rfl) rfl ?_
      refine g_il zp181 rfl rfl rfl ?_
      refine g_if zp181 rfl rfl zc0 (fun c11 => ?_) (fun c11 => ?_)
      · replace h := h.1 c11
        refine g_ic zp181 rfl rfl ?_
        refine g_is (ls' := [zR 81, zI l1, zI l2, zJ, zJ, zL (w64 (l5 * (w64 (1 + x10)))), zJ, zI 0, zI l8]) zp181 rfl rfl (Nat.le_of_ble_eq_true rfl) rfl ?_
        refine g_inc (ls' := [zR 81, zI l1, zI l2, zJ, zJ, zL (w64 (l5 * (w64 (1 + x10)))), zJ, zI 0, zI (w32 (l8 + 1))]) zp181 rfl rfl rfl rfl ?_
        refine g_goto zp181 rfl ?_
        exact g_weak (ls' := [zR 81, zI l1, zI l2, zJ, zJ, zL (w64 (l5 * (w64 (1 + x10)))), zJ, zI 0, zI (w32 (l8 + 1))]) ⟨Or.inr rfl, Or.inr rfl, Or.inr rfl, Or.inr rfl, Or.inr rfl, Or.inr rfl, Or.inr rfl, Or.inr rfl, Or.inr rfl, trivial⟩ h
      · replace h := h.2 c11
        refine g_al zp181 rfl rfl rfl (by decide) ?_
        refine g_get (v := zR 86) zp181 rfl rfl rfl ⟨rfl, by decide, (by decide)⟩ rfl ?_
        refine g_il zp181 rfl rfl rfl ?_
        refine g_ald (v := zI (H9 86 l8)) zp181 rfl rfl rfl rfl c8 rfl ?_
        refine g_ic zp181 rfl rfl ?_
        refine g_icmp zp181 rfl rfl zc1 (fun c12 => ?_) (fun c12 => ?_)
        · replace h := h.1 c12
          refine g_ic zp181 rfl rfl ?_
          refine g_is (ls' := [zR 81, zI l1, zI l2, zJ, zJ, zL (w64 (l5 * (w64 (1 + x10)))), zJ, zI 0, zI l8]) zp181 rfl rfl (Nat.le_of_ble_eq_true rfl) rfl ?_
          refine g_inc (ls' := [zR 81, zI l1, zI l2, zJ, zJ, zL (w64 (l5 * (w64 (1 + x10)))), zJ, zI 0, zI (w32 (l8 + 1))]) zp181 rfl rfl rfl rfl ?_
          refine g_goto zp181 rfl ?_
          exact g_weak (ls' := [zR 81, zI l1, zI l2, zJ, zJ, zL (w64 (l5 * (w64 (1 + x10)))), zJ, zI 0, zI (w32 (l8 + 1))]) ⟨Or.inr rfl, Or.inr rfl, Or.inr rfl, Or.inr rfl, Or.inr rfl, Or.inr rfl, Or.inr rfl, Or.inr rfl, Or.inr rfl, trivial⟩ h
        · replace h := h.2 c12
          refine g_ic zp181 rfl rfl ?_
          refine g_goto zp181 rfl ?_
          refine g_is (ls' := [zR 81, zI l1, zI l2, zJ, zJ, zL (w64 (l5 * (w64 (1 + x10)))), zJ, zI 1, zI l8]) zp181 rfl rfl (Nat.le_of_ble_eq_true rfl) rfl ?_
          refine g_inc (ls' := [zR 81, zI l1, zI l2, zJ, zJ, zL (w64 (l5 * (w64 (1 + x10)))), zJ, zI 1, zI (w32 (l8 + 1))]) zp181 rfl rfl rfl rfl ?_
          refine g_goto zp181 rfl ?_
          exact g_weak (ls' := [zR 81, zI l1, zI l2, zJ, zJ, zL (w64 (l5 * (w64 (1 + x10)))), zJ, zI 1, zI (w32 (l8 + 1))]) ⟨Or.inr rfl, Or.inr rfl, Or.inr rfl, Or.inr rfl, Or.inr rfl, Or.inr rfl, Or.inr rfl, Or.inr rfl, Or.inr rfl, trivial⟩ h
theorem zp182 : zprog.getD 182 [] = zk182 := rfl
theorem x182_0 {w : zWt} {d : Nat} {H : zHt} {K : Int → zHt → Prop} {l1 : Int}
    (h : zclV w d 177 [zR 81, zI l1] H (fun H1 => zgo w (d + 1) 182 10 [zR 81, zJ, zL 1, zJ, zI 0] [] H1 (zQL K))) :
    zclL w (d + 1) 182 [zR 81, zI l1] H K := by
  show zgo w (d + 1) 182 0 [zR 81, zI l1, zJ, zJ, zJ] [] H (zQL K)
  refine g_al zp182 rfl rfl rfl (by decide) ?_
  refine g_il zp182 rfl rfl rfl ?_
  refine g_callV (as := [zR 81, zI l1]) (rest := []) zp182 rfl rfl (Nat.succ_pos _) rfl rfl (Nat.le_of_ble_eq_true rfl) (Nat.le_of_ble_eq_true rfl) rfl rfl h (fun H1 h => ?_)
  refine g_lc zp182 rfl rfl ?_
  refine g_ls (ls' := [zR 81, zI l1, zL 1, zJ, zJ]) zp182 rfl rfl (Nat.le_of_ble_eq_true rfl) rfl ?_
  refine g_ic zp182 rfl rfl ?_
  refine g_is (ls' := [zR 81, zI l1, zL 1, zJ, zI 0]) zp182 rfl rfl (Nat.le_of_ble_eq_true rfl) rfl ?_
  exact g_weak (ls' := [zR 81, zJ, zL 1, zJ, zI 0]) ⟨Or.inr rfl, Or.inl rfl, Or.inr rfl, Or.inr rfl, Or.inr rfl, trivial⟩ h
theorem x182_10 {w : zWt} {d : Nat} {H : zHt} {K : Int → zHt → Prop} {l2 : Int} {l4 : Int}
    (h : ((H 81 8) ≤ l4 → K l2 H) ∧ (l4 < (H 81 8) → (0 ≤ l4 ∧ l4 < 10) ∧ zclL w d 183 [zI (H 85 l4), zI (H 86 l4)] H (fun x4 H3 => zgo w (d + 1) 182 10 [zR 81, zJ, zL (w64 (l2 * x4)), zJ, zI (w32 (l4 + 1))] [] H3 (zQL K)))) :
    zgo w (d + 1) 182 10 [zR 81, zJ, zL l2, zJ, zI l4] [] H (zQL K) := by
  refine g_il zp182 rfl rfl rfl ?_
  refine g_al zp182 rfl rfl rfl (by decide) ?_
  refine g_get (v := zI (H 81 8)) zp182 rfl rfl rfl ⟨rfl, by decide, (by decide)⟩ rfl ?_
  refine g_icmp zp182 rfl rfl zc3 (fun c1 => ?_) (fun c1 => ?_)
  · replace h := h.1 c1
    refine g_ll zp182 rfl rfl rfl ?_
    exact g_ret zp182 rfl rfl ⟨_, rfl, h⟩
  · replace h := h.2 c1
    refine g_ll zp182 rfl rfl rfl ?_
    refine g_al zp182 rfl rfl rfl (by decide) ?_
    refine g_get (v := zR 85) zp182 rfl rfl rfl ⟨rfl, by decide, (by decide)⟩ rfl ?_
    refine g_il zp182 rfl rfl rfl ?_
    obtain ⟨c2, h⟩ := h
    refine g_ald (v := zI (H 85 l4)) zp182 rfl rfl rfl rfl c2 rfl ?_
    refine g_al zp182 rfl rfl rfl (by decide) ?_
    refine g_get (v := zR 86) zp182 rfl rfl rfl ⟨rfl, by decide, (by decide)⟩ rfl ?_
    refine g_il zp182 rfl rfl rfl ?_
    refine g_ald (v := zI (H 86 l4)) zp182 rfl rfl rfl rfl c2 rfl ?_
    refine g_callL (as := [zI (H 85 l4), zI (H 86 l4)]) (rest := [zL l2]) zp182 rfl rfl (Nat.succ_pos _) rfl rfl (Nat.le_of_ble_eq_true rfl) (Nat.le_of_ble_eq_true rfl) rfl rfl h (fun x4 H3 h => ?_)
    refine g_lar (r := w64 (l2 * x4)) zp182 rfl rfl rfl ?_
    refine g_ls (ls' := [zR 81, zJ, zL (w64 (l2 * x4)), zJ, zI l4]) zp182 rfl rfl (Nat.le_of_ble_eq_true rfl) rfl ?_
    refine g_inc (ls' := [zR 81, zJ, zL (w64 (l2 * x4)), zJ, zI (w32 (l4 + 1))]) zp182 rfl rfl rfl rfl ?_
    refine g_goto zp182 rfl ?_
    exact g_weak (ls' := [zR 81, zJ, zL (w64 (l2 * x4)), zJ, zI (w32 (l4 + 1))]) ⟨Or.inr rfl, Or.inr rfl, Or.inr rfl, Or.inr rfl, Or.inr rfl, trivial⟩ h
theorem zp183 : zprog.getD 183 [] = zk183 := rfl
theorem x183_0 {w : zWt} {d : Nat} {H : zHt} {K : Int → zHt → Prop} {l0 : Int} {l1 : Int}
    (h : zgo w d 183 5 [zI l0, zI l1, zL 1, zJ, zI 0] [] H (zQL K)) :
    zclL w d 183 [zI l0, zI l1] H K := by
  show zgo w d 183 0 [zI l0, zI l1, zJ, zJ, zJ] [] H (zQL K)
  refine g_lc zp183 rfl rfl ?_
  refine g_ls (ls' := [zI l0, zI l1, zL 1, zJ, zJ]) zp183 rfl rfl (Nat.le_of_ble_eq_true rfl) rfl ?_
  refine g_ic zp183 rfl rfl ?_
  refine g_is (ls' := [zI l0, zI l1, zL 1, zJ, zI 0]) zp183 rfl rfl (Nat.le_of_ble_eq_true rfl) rfl ?_
  exact g_weak (ls' := [zI l0, zI l1, zL 1, zJ, zI 0]) ⟨Or.inr rfl, Or.inr rfl, Or.inr rfl, Or.inr rfl, Or.inr rfl, trivial⟩ h
theorem x183_5 {w : zWt} {d : Nat} {H : zHt} {K : Int → zHt → Prop} {l0 : Int} {l1 : Int} {l2 : Int} {l4 : Int}
    (h : (l1 ≤ l4 → K l2 H) ∧ (l4 < l1 → zgo w d 183 5 [zI l0, zI l1, zL (w64 ((w64 (l2 * l0)) + 1)), zJ, zI (w32 (l4 + 1))] [] H (zQL K))) :
    zgo w d 183 5 [zI l0, zI l1, zL l2, zJ, zI l4] [] H (zQL K) := by
  refine g_il zp183 rfl rfl rfl ?_
  refine g_il zp183 rfl rfl rfl ?_
  refine g_icmp zp183 rfl rfl zc3 (fun c1 => ?_) (fun c1 => ?_)
  · replace h := h.1 c1
    refine g_ll zp183 rfl rfl rfl ?_
    exact g_ret zp183 rfl rfl ⟨_, rfl, h⟩
  · replace h := h.2 c1
    refine g_ll zp183 rfl rfl rfl ?_
    refine g_il zp183 rfl rfl rfl ?_
    refine g_i2l zp183 rfl rfl ?_
    refine g_lar (r := w64 (l2 * l0)) zp183 rfl rfl rfl ?_
    refine g_lc zp183 rfl rfl ?_
    refine g_lar (r := w64 ((w64 (l2 * l0)) + 1)) zp183 rfl rfl rfl ?_
    refine g_ls (ls' := [zI l0, zI l1, zL (w64 ((w64 (l2 * l0)) + 1)), zJ, zI l4]) zp183 rfl rfl (Nat.le_of_ble_eq_true rfl) rfl ?_
    refine g_inc (ls' := [zI l0, zI l1, zL (w64 ((w64 (l2 * l0)) + 1)), zJ, zI (w32 (l4 + 1))]) zp183 rfl rfl rfl rfl ?_
    refine g_goto zp183 rfl ?_
    exact g_weak (ls' := [zI l0, zI l1, zL (w64 ((w64 (l2 * l0)) + 1)), zJ, zI (w32 (l4 + 1))]) ⟨Or.inr rfl, Or.inr rfl, Or.inr rfl, Or.inr rfl, Or.inr rfl, trivial⟩ h
theorem zp184 : zprog.getD 184 [] = zk184 := rfl
theorem x184_0 {w : zWt} {d : Nat} {H : zHt} {K : Int → zHt → Prop} {l0 : Int} {l1 : Int}
    (h : zgo w d 184 5 [zI l0, zI l1, zL 1, zJ, zI 0] [] H (zQL K)) :
    zclL w d 184 [zI l0, zI l1] H K := by
  show zgo w d 184 0 [zI l0, zI l1, zJ, zJ, zJ] [] H (zQL K)
  refine g_lc zp184 rfl rfl ?_
  refine g_ls (ls' := [zI l0, zI l1, zL 1, zJ, zJ]) zp184 rfl rfl (Nat.le_of_ble_eq_true rfl) rfl ?_
  refine g_ic zp184 rfl rfl ?_
  refine g_is (ls' := [zI l0, zI l1, zL 1, zJ, zI 0]) zp184 rfl rfl (Nat.le_of_ble_eq_true rfl) rfl ?_
  exact g_weak (ls' := [zI l0, zI l1, zL 1, zJ, zI 0]) ⟨Or.inr rfl, Or.inr rfl, Or.inr rfl, Or.inr rfl, Or.inr rfl, trivial⟩ h
theorem x184_5 {w : zWt} {d : Nat} {H : zHt} {K : Int → zHt → Prop} {l0 : Int} {l1 : Int} {l2 : Int} {l4 : Int}
    (h : (l1 ≤ l4 → K l2 H) ∧ (l4 < l1 → zgo w d 184 5 [zI l0, zI l1, zL (w64 (l2 * l0)), zJ, zI (w32 (l4 + 1))] [] H (zQL K))) :
    zgo w d 184 5 [zI l0, zI l1, zL l2, zJ, zI l4] [] H (zQL K) := by
  refine g_il zp184 rfl rfl rfl ?_
  refine g_il zp184 rfl rfl rfl ?_
  refine g_icmp zp184 rfl rfl zc3 (fun c1 => ?_) (fun c1 => ?_)
  · replace h := h.1 c1
    refine g_ll zp184 rfl rfl rfl ?_
    exact g_ret zp184 rfl rfl ⟨_, rfl, h⟩
  · replace h := h.2 c1
    refine g_ll zp184 rfl rfl rfl ?_
    refine g_il zp184 rfl rfl rfl ?_
    refine g_i2l zp184 rfl rfl ?_
    refine g_lar (r := w64 (l2 * l0)) zp184 rfl rfl rfl ?_
    refine g_ls (ls' := [zI l0, zI l1, zL (w64 (l2 * l0)), zJ, zI l4]) zp184 rfl rfl (Nat.le_of_ble_eq_true rfl) rfl ?_
    refine g_inc (ls' := [zI l0, zI l1, zL (w64 (l2 * l0)), zJ, zI (w32 (l4 + 1))]) zp184 rfl rfl rfl rfl ?_
    refine g_goto zp184 rfl ?_
    exact g_weak (ls' := [zI l0, zI l1, zL (w64 (l2 * l0)), zJ, zI (w32 (l4 + 1))]) ⟨Or.inr rfl, Or.inr rfl, Or.inr rfl, Or.inr rfl, Or.inr rfl, trivial⟩ h
theorem zp185 : zprog.getD 185 [] = zk185 := rfl
theorem x185_0 {w : zWt} {d : Nat} {H : zHt} {K : Int → zHt → Prop} {l1 : Int}
    (h : zclI w d 176 [zI l1] H (fun x2 H1 => (x2 = 0 → zclI w d 174 [zR 81, zI 1] H1 (fun x5 H4 => (x5 = 0 → K (-1) H4) ∧ (¬ x5 = 0 → zclI w d 186 [zR 81, zI l1, zI (H4 82 9)] H4 (fun x8 H7 => K x8 H7)))) ∧ (¬ x2 = 0 → zclI w d 174 [zR 81, zI 0] H1 (fun x10 H9 => (x10 = 0 → K (-1) H9) ∧ (¬ x10 = 0 → zclI w d 186 [zR 81, zI l1, zI (H9 82 9)] H9 (fun x13 H12 => K x13 H12)))))) :
    zclI w (d + 1) 185 [zR 81, zI l1] H K := by
  show zgo w (d + 1) 185 0 [zR 81, zI l1] [] H (zQI K)
  refine g_al zp185 rfl rfl rfl (by decide) ?_
  refine g_il zp185 rfl rfl rfl ?_
  refine g_callI (as := [zI l1]) (rest := [zR 81]) zp185 rfl rfl (Nat.succ_pos _) rfl rfl (Nat.le_of_ble_eq_true rfl) (Nat.le_of_ble_eq_true rfl) rfl rfl h (fun x2 H1 h => ?_)
  refine g_if zp185 rfl rfl zc0 (fun c3 => ?_) (fun c3 => ?_)
  · replace h := h.1 c3
    refine g_ic zp185 rfl rfl ?_
    refine g_callI (as := [zR 81, zI 1]) (rest := []) zp185 rfl rfl (Nat.succ_pos _) rfl rfl (Nat.le_of_ble_eq_true rfl) (Nat.le_of_ble_eq_true rfl) rfl rfl h (fun x5 H4 h => ?_)
    refine g_if zp185 rfl rfl zc0 (fun c6 => ?_) (fun c6 => ?_)
    · replace h := h.1 c6
      refine g_ic zp185 rfl rfl ?_
      exact g_ret zp185 rfl rfl ⟨_, rfl, h⟩
    · replace h := h.2 c6
      refine g_al zp185 rfl rfl rfl (by decide) ?_
      refine g_il zp185 rfl rfl rfl ?_
      refine g_al zp185 rfl rfl rfl (by decide) ?_
      refine g_get (v := zR 82) zp185 rfl rfl rfl ⟨rfl, by decide, (by decide)⟩ rfl ?_
      refine g_ic zp185 rfl rfl ?_
      refine g_ald (v := zI (H4 82 9)) zp185 rfl rfl rfl rfl (by decide) rfl ?_
      refine g_callI (as := [zR 81, zI l1, zI (H4 82 9)]) (rest := []) zp185 rfl rfl (Nat.succ_pos _) rfl rfl (Nat.le_of_ble_eq_true rfl) (Nat.le_of_ble_eq_true rfl) rfl rfl h (fun x8 H7 h => ?_)
      refine g_goto zp185 rfl ?_
      exact g_ret zp185 rfl rfl ⟨_, rfl, h⟩
  · replace h := h.2 c3
    refine g_ic zp185 rfl rfl ?_
    refine g_goto zp185 rfl ?_
    refine g_callI (as := [zR 81, zI 0]) (rest := []) zp185 rfl rfl (Nat.succ_pos _) rfl rfl (Nat.le_of_ble_eq_true rfl) (Nat.le_of_ble_eq_true rfl) rfl rfl h (fun x10 H9 h => ?_)
    refine g_if zp185 rfl rfl zc0 (fun c11 => ?_) (fun c11 => ?_)
    · replace h := h.1 c11
      refine g_ic zp185 rfl rfl ?_
      exact g_ret zp185 rfl rfl ⟨_, rfl, h⟩
    · replace h := h.2 c11
      refine g_al zp185 rfl rfl rfl (by decide) ?_
      refine g_il zp185 rfl rfl rfl ?_
      refine g_al zp185 rfl rfl rfl (by decide) ?_
      refine g_get (v := zR 82) zp185 rfl rfl rfl ⟨rfl, by decide, (by decide)⟩ rfl ?_
      refine g_ic zp185 rfl rfl ?_
      refine g_ald (v := zI (H9 82 9)) zp185 rfl rfl rfl rfl (by decide) rfl ?_
      refine g_callI (as := [zR 81, zI l1, zI (H9 82 9)]) (rest := []) zp185 rfl rfl (Nat.succ_pos _) rfl rfl (Nat.le_of_ble_eq_true rfl) (Nat.le_of_ble_eq_true rfl) rfl rfl h (fun x13 H12 h => ?_)
      refine g_goto zp185 rfl ?_
      exact g_ret zp185 rfl rfl ⟨_, rfl, h⟩
theorem zp186 : zprog.getD 186 [] = zk186 := rfl
theorem x186_0 {w : zWt} {d : Nat} {H : zHt} {K : Int → zHt → Prop} {l1 : Int} {l2 : Int}
    (h : zclL w d 181 [zR 81, zI l1, zI l2] H (fun x2 H1 => (l1 ≤ x2 → (¬ x2 = l1 → K 2 H1) ∧ (x2 = l1 → K 1 H1)) ∧ (x2 < l1 → K 0 H1))) :
    zclI w (d + 1) 186 [zR 81, zI l1, zI l2] H K := by
  show zgo w (d + 1) 186 0 [zR 81, zI l1, zI l2, zJ, zJ] [] H (zQI K)
  refine g_al zp186 rfl rfl rfl (by decide) ?_
  refine g_il zp186 rfl rfl rfl ?_
  refine g_il zp186 rfl rfl rfl ?_
  refine g_callL (as := [zR 81, zI l1, zI l2]) (rest := []) zp186 rfl rfl (Nat.succ_pos _) rfl rfl (Nat.le_of_ble_eq_true rfl) (Nat.le_of_ble_eq_true rfl) rfl rfl h (fun x2 H1 h => ?_)
  refine g_ls (ls' := [zR 81, zI l1, zI l2, zL x2, zJ]) zp186 rfl rfl (Nat.le_of_ble_eq_true rfl) rfl ?_
  refine g_ll zp186 rfl rfl rfl ?_
  refine g_il zp186 rfl rfl rfl ?_
  refine g_i2l zp186 rfl rfl ?_
  refine g_lcmp zp186 rfl rfl rfl rfl zc3 (fun c3 => ?_) (fun c3 => ?_)
  · replace h := h.1 c3
    refine g_ll zp186 rfl rfl rfl ?_
    refine g_il zp186 rfl rfl rfl ?_
    refine g_i2l zp186 rfl rfl ?_
    refine g_lcmp zp186 rfl rfl rfl rfl zc1 (fun c4 => ?_) (fun c4 => ?_)
    · replace h := h.1 c4
      refine g_ic zp186 rfl rfl ?_
      exact g_ret zp186 rfl rfl ⟨_, rfl, h⟩
    · replace h := h.2 c4
      refine g_ic zp186 rfl rfl ?_
      refine g_goto zp186 rfl ?_
      exact g_ret zp186 rfl rfl ⟨_, rfl, h⟩
  · replace h := h.2 c3
    refine g_ic zp186 rfl rfl ?_
    refine g_goto zp186 rfl ?_
    exact g_ret zp186 rfl rfl ⟨_, rfl, h⟩
theorem zp187 : zprog.getD 187 [] = zk187 := rfl
theorem x187_0 {w : zWt} {d : Nat} {H : zHt} {K : Int → zHt → Prop} {l1 : Int} {l2 : Int}
    (h : zclI w d 176 [zI l1] H (fun x2 H1 => (x2 = 0 → zgo w (d + 1) 187 36 [zR 81, zI l1, zI l2] [zI 1, zR 81] H1 (zQI K)) ∧ (¬ x2 = 0 → zclI w d 173 [zL l2, zL 0, zL 3] H1 (fun x5 H4 => (¬ x5 = 0 → (¬ (Int.tmod l1 2) = 1 → zgo w (d + 1) 187 36 [zR 81, zI l1, zI l2] [zI 0, zR 81] H4 (zQI K)) ∧ ((Int.tmod l1 2) = 1 → zgo w (d + 1) 187 36 [zR 81, zI l1, zI l2] [zI 5, zR 81] H4 (zQI K))) ∧ (x5 = 0 → zgo w (d + 1) 187 36 [zR 81, zI l1, zI l2] [zI 1, zR 81] H4 (zQI K)))))) :
    zclI w (d + 1) 187 [zR 81, zI l1, zI l2] H K := by
  show zgo w (d + 1) 187 0 [zR 81, zI l1, zI l2] [] H (zQI K)
  refine g_al zp187 rfl rfl rfl (by decide) ?_
  refine g_il zp187 rfl rfl rfl ?_
  refine g_callI (as := [zI l1]) (rest := [zR 81]) zp187 rfl rfl (Nat.succ_pos _) rfl rfl (Nat.le_of_ble_eq_true rfl) (Nat.le_of_ble_eq_true rfl) rfl rfl h (fun x2 H1 h => ?_)
  refine g_if zp187 rfl rfl zc0 (fun c3 => ?_) (fun c3 => ?_)
  · replace h := h.1 c3
    refine g_ic zp187 rfl rfl ?_
    refine g_goto zp187 rfl ?_
    exact g_weak (ls' := [zR 81, zI l1, zI l2]) ⟨Or.inr rfl, Or.inr rfl, Or.inr rfl, trivial⟩ h
  · replace h := h.2 c3
    refine g_il zp187 rfl rfl rfl ?_
    refine g_i2l zp187 rfl rfl ?_
    refine g_lc zp187 rfl rfl ?_
    refine g_lc zp187 rfl rfl ?_
    refine g_callI (as := [zL l2, zL 0, zL 3]) (rest := [zR 81]) zp187 rfl rfl (Nat.succ_pos _) rfl rfl (Nat.le_of_ble_eq_true rfl) (Nat.le_of_ble_eq_true rfl) rfl rfl h (fun x5 H4 h => ?_)
    refine g_if zp187 rfl rfl zc1 (fun c6 => ?_) (fun c6 => ?_)
    · replace h := h.1 c6
      refine g_il zp187 rfl rfl rfl ?_
      refine g_ic zp187 rfl rfl ?_
      refine g_ar (r := Int.tmod l1 2) zp187 rfl rfl (zr_rem (by decide)) ?_
      refine g_ic zp187 rfl rfl ?_
      refine g_icmp zp187 rfl rfl zc1 (fun c7 => ?_) (fun c7 => ?_)
      · replace h := h.1 c7
        refine g_ic zp187 rfl rfl ?_
        exact g_weak (ls' := [zR 81, zI l1, zI l2]) ⟨Or.inr rfl, Or.inr rfl, Or.inr rfl, trivial⟩ h
      · replace h := h.2 c7
        refine g_ic zp187 rfl rfl ?_
        refine g_goto zp187 rfl ?_
        exact g_weak (ls' := [zR 81, zI l1, zI l2]) ⟨Or.inr rfl, Or.inr rfl, Or.inr rfl, trivial⟩ h
    · replace h := h.2 c6
      refine g_ic zp187 rfl rfl ?_
      refine g_goto zp187 rfl ?_
      exact g_weak (ls' := [zR 81, zI l1, zI l2]) ⟨Or.inr rfl, Or.inr rfl, Or.inr rfl, trivial⟩ h
theorem x187_36 {w : zWt} {d : Nat} {H : zHt} {K : Int → zHt → Prop} {l1 : Int} {l2 : Int} {s1 : Int}
    (h : zclI w d 174 [zR 81, zI s1] H (fun x2 H1 => (¬ x2 = 0 → zclV w d 188 [zR 81, zI l1] H1 (fun H4 => (l2 < 0 ∨ 3 ≤ l2 → zclI w d 191 [zR 81, zI l1] H4 (fun x7 H6 => (x7 = 0 → K 0 H6) ∧ (¬ x7 = 0 → K 1 H6))) ∧ (l2 = 0 → zclI w d 190 [zR 81] H4 (fun x10 H9 => K x10 H9)) ∧ (l2 = 1 → K (H4 81 9) H4) ∧ (l2 = 2 → K (H4 81 10) H4))) ∧ (x2 = 0 → K (-1) H1))) :
    zgo w (d + 1) 187 36 [zR 81, zI l1, zI l2] [zI s1, zR 81] H (zQI K) := by
  refine g_callI (as := [zR 81, zI s1]) (rest := []) zp187 rfl rfl (Nat.succ_pos _) rfl rfl (Nat.le_of_ble_eq_true rfl) (Nat.le_of_ble_eq_true rfl) rfl rfl h (fun x2 H1 h => ?_)
  refine g_if zp187 rfl rfl zc1 (fun c3 => ?_) (fun c3 => ?_)
  · replace h := h.1 c3
    refine g_al zp187 rfl rfl rfl (by decide) ?_
    refine g_il zp187 rfl rfl rfl ?_
    refine g_callV (as := [zR 81, zI l1]) (rest := []) zp187 rfl rfl (Nat.succ_pos _) rfl rfl (Nat.le_of_ble_eq_true rfl) (Nat.le_of_ble_eq_true rfl) rfl rfl h (fun H4 h => ?_)
    refine g_il zp187 rfl rfl rfl ?_
    rcases Classical.em (l2 < 0 ∨ 3 ≤ l2) with c | c
    · refine g_tabO zp187 rfl c ?_
      replace h := h.1 c
      refine g_al zp187 rfl rfl rfl (by decide) ?_
      refine g_il zp187 rfl rfl rfl ?_
      refine g_callI (as := [zR 81, zI l1]) (rest := []) zp187 rfl rfl (Nat.succ_pos _) rfl rfl (Nat.le_of_ble_eq_true rfl) (Nat.le_of_ble_eq_true rfl) rfl rfl h (fun x7 H6 h => ?_)
      refine g_if zp187 rfl rfl zc0 (fun c8 => ?_) (fun c8 => ?_)
      · replace h := h.1 c8
        refine g_ic zp187 rfl rfl ?_
        exact g_ret zp187 rfl rfl ⟨_, rfl, h⟩
      · replace h := h.2 c8
        refine g_ic zp187 rfl rfl ?_
        refine g_goto zp187 rfl ?_
        exact g_ret zp187 rfl rfl ⟨_, rfl, h⟩
    · replace h := h.2
      have hh : l2 = 0 ∨ l2 = 1 ∨ l2 = 2 := by omega
      rcases hh with c | c | c
      · replace h := h.1 c
        refine g_tabE (z := 0) zp187 rfl c (by decide) rfl ?_
        refine g_al zp187 rfl rfl rfl (by decide) ?_
        refine g_callI (as := [zR 81]) (rest := []) zp187 rfl rfl (Nat.succ_pos _) rfl rfl (Nat.le_of_ble_eq_true rfl) (Nat.le_of_ble_eq_true rfl) rfl rfl h (fun x10 H9 h => ?_)
        exact g_ret zp187 rfl rfl ⟨_, rfl, h⟩
      · replace h := h.2.1 c
        refine g_tabE (z := 1) zp187 rfl c (by decide) rfl ?_
        refine g_al zp187 rfl rfl rfl (by decide) ?_
        refine g_get (v := zI (H4 81 9)) zp187 rfl rfl rfl ⟨rfl, by decide, (by decide)⟩ rfl ?_
        exact g_ret zp187 rfl rfl ⟨_, rfl, h⟩
      · replace h := h.2.2 c
        refine g_tabE (z := 2) zp187 rfl c (by decide) rfl ?_
        refine g_al zp187 rfl rfl rfl (by decide) ?_
        refine g_get (v := zI (H4 81 10)) zp187 rfl rfl rfl ⟨rfl, by decide, (by decide)⟩ rfl ?_
        exact g_ret zp187 rfl rfl ⟨_, rfl, h⟩
  · replace h := h.2 c3
    refine g_ic zp187 rfl rfl ?_
    exact g_ret zp187 rfl rfl ⟨_, rfl, h⟩
theorem zp188 : zprog.getD 188 [] = zk188 := rfl
theorem x188_0 {w : zWt} {d : Nat} {H : zHt} {K : zHt → Prop} {l1 : Int}
    (h : zgo w (d + 1) 188 7 [zR 81, zI l1, zI l1] [] (zup H 81 9 0) (zQV K)) :
    zclV w (d + 1) 188 [zR 81, zI l1] H K := by
  show zgo w (d + 1) 188 0 [zR 81, zI l1, zJ] [] H (zQV K)
  refine g_al zp188 rfl rfl rfl (by decide) ?_
  refine g_ic zp188 rfl rfl ?_
  refine g_putI zp188 rfl rfl rfl ⟨rfl, by decide, (by decide)⟩ rfl rfl ?_
  refine g_il zp188 rfl rfl rfl ?_
  refine g_is (ls' := [zR 81, zI l1, zI l1]) zp188 rfl rfl (Nat.le_of_ble_eq_true rfl) rfl ?_
  exact g_weak (ls' := [zR 81, zI l1, zI l1]) ⟨Or.inr rfl, Or.inr rfl, Or.inr rfl, trivial⟩ h
theorem x188_7 {w : zWt} {d : Nat} {H : zHt} {K : zHt → Prop} {l1 : Int} {l2 : Int}
    (h : (¬ (Int.tmod l2 2) = 0 → zclL w d 184 [zI 2, zI (w32 ((H 81 9) + 1))] H (fun x3 H2 => zclL w d 189 [zL (w64 (x3 - 1)), zL l1] H2 (fun x5 H4 => K (zup H4 81 10 (w32 x5))))) ∧ ((Int.tmod l2 2) = 0 → zgo w (d + 1) 188 7 [zR 81, zI l1, zI (w32 (Int.tdiv l2 2))] [] (zup H 81 9 (w32 ((H 81 9) + 1))) (zQV K))) :
    zgo w (d + 1) 188 7 [zR 81, zI l1, zI l2] [] H (zQV K) := by
  refine g_il zp188 rfl rfl rfl ?_
  refine g_ic zp188 rfl rfl ?_
  refine g_ar (r := Int.tmod l2 2) zp188 rfl rfl (zr_rem (by decide)) ?_
  refine g_if zp188 rfl rfl zc1 (fun c1 => ?_) (fun c1 => ?_)
  · replace h := h.1 c1
    refine g_al zp188 rfl rfl rfl (by decide) ?_
    refine g_ic zp188 rfl rfl ?_
    refine g_al zp188 rfl rfl rfl (by decide) ?_
    refine g_get (v := zI (H 81 9)) zp188 rfl rfl rfl ⟨rfl, by decide, (by decide)⟩ rfl ?_
    refine g_ic zp188 rfl rfl ?_
    refine g_ar (r := w32 ((H 81 9) + 1)) zp188 rfl rfl rfl ?_
    refine g_callL (as := [zI 2, zI (w32 ((H 81 9) + 1))]) (rest := [zR 81]) zp188 rfl rfl (Nat.succ_pos _) rfl rfl (Nat.le_of_ble_eq_true rfl) (Nat.le_of_ble_eq_true rfl) rfl rfl h (fun x3 H2 h => ?_)
    refine g_lc zp188 rfl rfl ?_
    refine g_lar (r := w64 (x3 - 1)) zp188 rfl rfl rfl ?_
    refine g_il zp188 rfl rfl rfl ?_
    refine g_i2l zp188 rfl rfl ?_
    refine g_callL (as := [zL (w64 (x3 - 1)), zL l1]) (rest := [zR 81]) zp188 rfl rfl (Nat.succ_pos _) rfl rfl (Nat.le_of_ble_eq_true rfl) (Nat.le_of_ble_eq_true rfl) rfl rfl h (fun x5 H4 h => ?_)
    refine g_l2i zp188 rfl rfl ?_
    refine g_putI zp188 rfl rfl rfl ⟨rfl, by decide, (by decide)⟩ rfl rfl ?_
    exact g_ret zp188 rfl rfl ⟨rfl, h⟩
  · replace h := h.2 c1
    refine g_al zp188 rfl rfl rfl (by decide) ?_
    refine g_dup zp188 rfl rfl rfl ?_
    refine g_get (v := zI (H 81 9)) zp188 rfl rfl rfl ⟨rfl, by decide, (by decide)⟩ rfl ?_
    refine g_ic zp188 rfl rfl ?_
    refine g_ar (r := w32 ((H 81 9) + 1)) zp188 rfl rfl rfl ?_
    refine g_putI zp188 rfl rfl rfl ⟨rfl, by decide, (by decide)⟩ rfl rfl ?_
    refine g_il zp188 rfl rfl rfl ?_
    refine g_ic zp188 rfl rfl ?_
    refine g_ar (r := w32 (Int.tdiv l2 2)) zp188 rfl rfl (zr_div (by decide)) ?_
    refine g_is (ls' := [zR 81, zI l1, zI (w32 (Int.tdiv l2 2))]) zp188 rfl rfl (Nat.le_of_ble_eq_true rfl) rfl ?_
    refine g_goto zp188 rfl ?_
    exact g_weak (ls' := [zR 81, zI l1, zI (w32 (Int.tdiv l2 2))]) ⟨Or.inr rfl, Or.inr rfl, Or.inr rfl, trivial⟩ h
theorem zp189 : zprog.getD 189 [] = zk189 := rfl
theorem x189_0 {w : zWt} {d : Nat} {H : zHt} {K : Int → zHt → Prop} {l0 : Int} {l2 : Int}
    (h : zgo w d 189 6 [zJ, zJ, zJ, zJ, zL l0, zJ, zL l2, zJ, zJ, zJ] [] H (zQL K)) :
    zclL w d 189 [zL l0, zL l2] H K := by
  show zgo w d 189 0 [zL l0, zJ, zL l2, zJ, zJ, zJ, zJ, zJ, zJ, zJ] [] H (zQL K)
  refine g_ll zp189 rfl rfl rfl ?_
  refine g_ls (ls' := [zL l0, zJ, zL l2, zJ, zL l0, zJ, zJ, zJ, zJ, zJ]) zp189 rfl rfl (Nat.le_of_ble_eq_true rfl) rfl ?_
  refine g_ll zp189 rfl rfl rfl ?_
  refine g_ls (ls' := [zL l0, zJ, zL l2, zJ, zL l0, zJ, zL l2, zJ, zJ, zJ]) zp189 rfl rfl (Nat.le_of_ble_eq_true rfl) rfl ?_
  exact g_weak (ls' := [zJ, zJ, zJ, zJ, zL l0, zJ, zL l2, zJ, zJ, zJ]) ⟨Or.inl rfl, Or.inr rfl, Or.inl rfl, Or.inr rfl, Or.inr rfl, Or.inr rfl, Or.inr rfl, Or.inr rfl, Or.inr rfl, Or.inr rfl, trivial⟩ h
theorem x189_6 {w : zWt} {d : Nat} {H : zHt} {K : Int → zHt → Prop} {l4 : Int} {l6 : Int}
    (h : (l6 = 0 → K l4 H) ∧ (¬ l6 = 0 → (l6 ≠ 0) ∧ zgo w d 189 6 [zJ, zJ, zJ, zJ, zL l6, zJ, zL (Int.tmod l4 l6), zJ, zJ, zJ] [] H (zQL K))) :
    zgo w d 189 6 [zJ, zJ, zJ, zJ, zL l4, zJ, zL l6, zJ, zJ, zJ] [] H (zQL K) := by
  refine g_ll zp189 rfl rfl rfl ?_
  refine g_lc zp189 rfl rfl ?_
  refine g_lcmp zp189 rfl rfl rfl rfl zc0 (fun c1 => ?_) (fun c1 => ?_)
  · replace h := h.1 c1
    refine g_ll zp189 rfl rfl rfl ?_
    exact g_ret zp189 rfl rfl ⟨_, rfl, h⟩
  · replace h := h.2 c1
    refine g_ll zp189 rfl rfl rfl ?_
    refine g_ll zp189 rfl rfl rfl ?_
    obtain ⟨c2, h⟩ := h
    refine g_lar (r := Int.tmod l4 l6) zp189 rfl rfl (zr_lrem c2) ?_
    refine g_ls (ls' := [zJ, zJ, zJ, zJ, zL l4, zJ, zL l6, zJ, zL (Int.tmod l4 l6), zJ]) zp189 rfl rfl (Nat.le_of_ble_eq_true rfl) rfl ?_
    refine g_ll zp189 rfl rfl rfl ?_
    refine g_ls (ls' := [zJ, zJ, zJ, zJ, zL l6, zJ, zL l6, zJ, zL (Int.tmod l4 l6), zJ]) zp189 rfl rfl (Nat.le_of_ble_eq_true rfl) rfl ?_
    refine g_ll zp189 rfl rfl rfl ?_
    refine g_ls (ls' := [zJ, zJ, zJ, zJ, zL l6, zJ, zL (Int.tmod l4 l6), zJ, zL (Int.tmod l4 l6), zJ]) zp189 rfl rfl (Nat.le_of_ble_eq_true rfl) rfl ?_
    refine g_goto zp189 rfl ?_
    exact g_weak (ls' := [zJ, zJ, zJ, zJ, zL l6, zJ, zL (Int.tmod l4 l6), zJ, zJ, zJ]) ⟨Or.inr rfl, Or.inr rfl, Or.inr rfl, Or.inr rfl, Or.inr rfl, Or.inr rfl, Or.inr rfl, Or.inr rfl, Or.inl rfl, Or.inr rfl, trivial⟩ h
theorem zp190 : zprog.getD 190 [] = zk190 := rfl
theorem x190_0 {w : zWt} {d : Nat} {H : zHt} {K : Int → zHt → Prop} 
    (h : zclL w d 184 [zI 2, zI (H 81 9)] H (fun x2 H1 => K (w32 ((w32 x2) * (H1 81 10))) H1)) :
    zclI w (d + 1) 190 [zR 81] H K := by
  show zgo w (d + 1) 190 0 [zR 81] [] H (zQI K)
  refine g_ic zp190 rfl rfl ?_
  refine g_al zp190 rfl rfl rfl (by decide) ?_
  refine g_get (v := zI (H 81 9)) zp190 rfl rfl rfl ⟨rfl, by decide, (by decide)⟩ rfl ?_
  refine g_callL (as := [zI 2, zI (H 81 9)]) (rest := []) zp190 rfl rfl (Nat.succ_pos _) rfl rfl (Nat.le_of_ble_eq_true rfl) (Nat.le_of_ble_eq_true rfl) rfl rfl h (fun x2 H1 h => ?_)
  refine g_l2i zp190 rfl rfl ?_
  refine g_al zp190 rfl rfl rfl (by decide) ?_
  refine g_get (v := zI (H1 81 10)) zp190 rfl rfl rfl ⟨rfl, by decide, (by decide)⟩ rfl ?_
  refine g_ar (r := w32 ((w32 x2) * (H1 81 10))) zp190 rfl rfl rfl ?_
  exact g_ret zp190 rfl rfl ⟨_, rfl, h⟩
theorem zp191 : zprog.getD 191 [] = zk191 := rfl
theorem x191_0 {w : zWt} {d : Nat} {H : zHt} {K : Int → zHt → Prop} {l1 : Int}
    (h : zclV w d 188 [zR 81, zI l1] H (fun H1 => zclL w d 182 [zR 81, zI (H1 81 10)] H1 (fun x4 H3 => zgo w (d + 1) 191 22 [zJ, zJ, zI (H1 81 9), zL x4, zJ, zI 0] [] H3 (zQI K)))) :
    zclI w (d + 1) 191 [zR 81, zI l1] H K := by
  show zgo w (d + 1) 191 0 [zR 81, zI l1, zJ, zJ, zJ, zJ] [] H (zQI K)
  refine g_al zp191 rfl rfl rfl (by decide) ?_
  refine g_il zp191 rfl rfl rfl ?_
  refine g_callV (as := [zR 81, zI l1]) (rest := []) zp191 rfl rfl (Nat.succ_pos _) rfl rfl (Nat.le_of_ble_eq_true rfl) (Nat.le_of_ble_eq_true rfl) rfl rfl h (fun H1 h => ?_)
  refine g_al zp191 rfl rfl rfl (by decide) ?_
  refine g_get (v := zI (H1 81 9)) zp191 rfl rfl rfl ⟨rfl, by decide, (by decide)⟩ rfl ?_
  refine g_is (ls' := [zR 81, zI l1, zI (H1 81 9), zJ, zJ, zJ]) zp191 rfl rfl (Nat.le_of_ble_eq_true rfl) rfl ?_
  refine g_al zp191 rfl rfl rfl (by decide) ?_
  refine g_al zp191 rfl rfl rfl (by decide) ?_
  refine g_get (v := zI (H1 81 10)) zp191 rfl rfl rfl ⟨rfl, by decide, (by decide)⟩ rfl ?_
  refine g_callL (as := [zR 81, zI (H1 81 10)]) (rest := []) zp191 rfl rfl (Nat.succ_pos _) rfl rfl (Nat.le_of_ble_eq_true rfl) (Nat.le_of_ble_eq_true rfl) rfl rfl h (fun x4 H3 h => ?_)
  refine g_ls (ls' := [zR 81, zI l1, zI (H1 81 9), zL x4, zJ, zJ]) zp191 rfl rfl (Nat.le_of_ble_eq_true rfl) rfl ?_
  refine g_ic zp191 rfl rfl ?_
  refine g_is (ls' := [zR 81, zI l1, zI (H1 81 9), zL x4, zJ, zI 0]) zp191 rfl rfl (Nat.le_of_ble_eq_true rfl) rfl ?_
  exact g_weak (ls' := [zJ, zJ, zI (H1 81 9), zL x4, zJ, zI 0]) ⟨Or.inl rfl, Or.inl rfl, Or.inr rfl, Or.inr rfl, Or.inr rfl, Or.inr rfl, trivial⟩ h
theorem x191_22 {w : zWt} {d : Nat} {H : zHt} {K : Int → zHt → Prop} {l2 : Int} {l3 : Int} {l5 : Int}
    (h : (¬ (Int.tmod l3 2) = 0 → (l5 < (w32 (l2 - 1)) → K 0 H) ∧ ((w32 (l2 - 1)) ≤ l5 → K 1 H)) ∧ ((Int.tmod l3 2) = 0 → zgo w (d + 1) 191 22 [zJ, zJ, zI l2, zL (w64 (Int.tdiv l3 2)), zJ, zI (w32 (l5 + 1))] [] H (zQI K))) :
    zgo w (d + 1) 191 22 [zJ, zJ, zI l2, zL l3, zJ, zI l5] [] H (zQI K) := by
  refine g_ll zp191 rfl rfl rfl ?_
  refine g_lc zp191 rfl rfl ?_
  refine g_lar (r := Int.tmod l3 2) zp191 rfl rfl (zr_lrem (by decide)) ?_
  refine g_lc zp191 rfl rfl ?_
  refine g_lcmp zp191 rfl rfl rfl rfl zc1 (fun c1 => ?_) (fun c1 => ?_)
  · replace h := h.1 c1
    refine g_il zp191 rfl rfl rfl ?_
    refine g_il zp191 rfl rfl rfl ?_
    refine g_ic zp191 rfl rfl ?_
    refine g_ar (r := w32 (l2 - 1)) zp191 rfl rfl rfl ?_
    refine g_icmp zp191 rfl rfl zc2 (fun c2 => ?_) (fun c2 => ?_)
    · replace h := h.1 c2
      refine g_ic zp191 rfl rfl ?_
      exact g_ret zp191 rfl (zret_b (by decide)) ⟨_, rfl, h⟩
    · replace h := h.2 c2
      refine g_ic zp191 rfl rfl ?_
      refine g_goto zp191 rfl ?_
      exact g_ret zp191 rfl (zret_b (by decide)) ⟨_, rfl, h⟩
  · replace h := h.2 c1
    refine g_inc (ls' := [zJ, zJ, zI l2, zL l3, zJ, zI (w32 (l5 + 1))]) zp191 rfl rfl rfl rfl ?_
    refine g_ll zp191 rfl rfl rfl ?_
    refine g_lc zp191 rfl rfl ?_
    refine g_lar (r := w64 (Int.tdiv l3 2)) zp191 rfl rfl (zr_ldiv (by decide)) ?_
    refine g_ls (ls' := [zJ, zJ, zI l2, zL (w64 (Int.tdiv l3 2)), zJ, zI (w32 (l5 + 1))]) zp191 rfl rfl (Nat.le_of_ble_eq_true rfl) rfl ?_
    refine g_goto zp191 rfl ?_
    exact g_weak (ls' := [zJ, zJ, zI l2, zL (w64 (Int.tdiv l3 2)), zJ, zI (w32 (l5 + 1))]) ⟨Or.inr rfl, Or.inr rfl, Or.inr rfl, Or.inr rfl, Or.inr rfl, Or.inr rfl, trivial⟩ h
theorem zp192 : zprog.getD 192 [] = zk192 := rfl
theorem x192_0 {w : zWt} {d : Nat} {H : zHt} {K : Int → zHt → Prop} {l1 : Int} {l2 : Int}
    (h : zclI w d 176 [zI l1] H (fun x2 H1 => (x2 = 0 → zgo w (d + 1) 192 18 [zR 81, zI l1, zI l2] [zI 1, zR 81] H1 (zQI K)) ∧ (¬ x2 = 0 → (l2 < (-1) → zgo w (d + 1) 192 18 [zR 81, zI l1, zI l2] [zI 1, zR 81] H1 (zQI K)) ∧ ((-1) ≤ l2 → zgo w (d + 1) 192 18 [zR 81, zI l1, zI l2] [zI 0, zR 81] H1 (zQI K))))) :
    zclI w (d + 1) 192 [zR 81, zI l1, zI l2] H K := by
  show zgo w (d + 1) 192 0 [zR 81, zI l1, zI l2] [] H (zQI K)
  refine g_al zp192 rfl rfl rfl (by decide) ?_
  refine g_il zp192 rfl rfl rfl ?_
  refine g_callI (as := [zI l1]) (rest := [zR 81]) zp192 rfl rfl (Nat.succ_pos _) rfl rfl (Nat.le_of_ble_eq_true rfl) (Nat.le_of_ble_eq_true rfl) rfl rfl h (fun x2 H1 h => ?_)
  refine g_if zp192 rfl rfl zc0 (fun c3 => ?_) (fun c3 => ?_)
  · replace h := h.1 c3
    refine g_ic zp192 rfl rfl ?_
    exact g_weak (ls' := [zR 81, zI l1, zI l2]) ⟨Or.inr rfl, Or.inr rfl, Or.inr rfl, trivial⟩ h
  · replace h := h.2 c3
    refine g_il zp192 rfl rfl rfl ?_
    refine g_ic zp192 rfl rfl ?_
    refine g_icmp zp192 rfl rfl zc2 (fun c4 => ?_) (fun c4 => ?_)
    · replace h := h.1 c4
      refine g_ic zp192 rfl rfl ?_
      exact g_weak (ls' := [zR 81, zI l1, zI l2]) ⟨Or.inr rfl, Or.inr rfl, Or.inr rfl, trivial⟩ h
    · replace h := h.2 c4
      refine g_ic zp192 rfl rfl ?_
      refine g_goto zp192 rfl ?_
      exact g_weak (ls' := [zR 81, zI l1, zI l2]) ⟨Or.inr rfl, Or.inr rfl, Or.inr rfl, trivial⟩ h
theorem x192_18 {w : zWt} {d : Nat} {H : zHt} {K : Int → zHt → Prop} {l1 : Int} {l2 : Int} {s1 : Int}
    (h : zclI w d 174 [zR 81, zI s1] H (fun x2 H1 => (¬ x2 = 0 → (¬ l2 = (-1) → zclV w d 194 [zR 81, zI l1] H1 (fun H5 => ((H5 81 12) ≤ l2 → zclI w d 178 [zR 81, zI 5] H5 (fun x9 H8 => K x9 H8)) ∧ (l2 < (H5 81 12) → (0 ≤ l2 ∧ l2 < 1400) ∧ K (H5 87 l2) H5))) ∧ (l2 = (-1) → zclI w d 193 [zR 81, zI l1] H1 (fun x12 H11 => K x12 H11))) ∧ (x2 = 0 → K (-1) H1))) :
    zgo w (d + 1) 192 18 [zR 81, zI l1, zI l2] [zI s1, zR 81] H (zQI K) := by
  refine g_callI (as := [zR 81, zI s1]) (rest := []) zp192 rfl rfl (Nat.succ_pos _) rfl rfl (Nat.le_of_ble_eq_true rfl) (Nat.le_of_ble_eq_true rfl) rfl rfl h (fun x2 H1 h => ?_)
  refine g_if zp192 rfl rfl zc1 (fun c3 => ?_) (fun c3 => ?_)
  · replace h := h.1 c3
    refine g_il zp192 rfl rfl rfl ?_
    refine g_ic zp192 rfl rfl ?_
    refine g_icmp zp192 rfl rfl zc1 (fun c4 => ?_) (fun c4 => ?_)
    · replace h := h.1 c4
      refine g_al zp192 rfl rfl rfl (by decide) ?_
      refine g_il zp192 rfl rfl rfl ?_
      refine g_callV (as := [zR 81, zI l1]) (rest := []) zp192 rfl rfl (Nat.succ_pos _) rfl rfl (Nat.le_of_ble_eq_true rfl) (Nat.le_of_ble_eq_true rfl) rfl rfl h (fun H5 h => ?_)
      refine g_il zp192 rfl rfl rfl ?_
      refine g_al zp192 rfl rfl rfl (by decide) ?_
      refine g_get (v := zI (H5 81 12)) zp192 rfl rfl rfl ⟨rfl, by decide, (by decide)⟩ rfl ?_
      refine g_icmp zp192 rfl rfl zc3 (fun c7 => ?_) (fun c7 => ?_)
      · replace h := h.1 c7
        refine g_al zp192 rfl rfl rfl (by decide) ?_
        refine g_ic zp192 rfl rfl ?_
        refine g_callI (as := [zR 81, zI 5]) (rest := []) zp192 rfl rfl (Nat.succ_pos _) rfl rfl (Nat.le_of_ble_eq_true rfl) (Nat.le_of_ble_eq_true rfl) rfl rfl h (fun x9 H8 h => ?_)
        exact g_ret zp192 rfl rfl ⟨_, rfl, h⟩
      · replace h := h.2 c7
        refine g_al zp192 rfl rfl rfl (by decide) ?_
        refine g_get (v := zR 87) zp192 rfl rfl rfl ⟨rfl, by decide, (by decide)⟩ rfl ?_
        refine g_il zp192 rfl rfl rfl ?_
        obtain ⟨c10, h⟩ := h
        refine g_ald (v := zI (H5 87 l2)) zp192 rfl rfl rfl rfl c10 rfl ?_
        refine g_goto zp192 rfl ?_
        exact g_ret zp192 rfl rfl ⟨_, rfl, h⟩
    · replace h := h.2 c4
      refine g_al zp192 rfl rfl rfl (by decide) ?_
      refine g_il zp192 rfl rfl rfl ?_
      refine g_callI (as := [zR 81, zI l1]) (rest := []) zp192 rfl rfl (Nat.succ_pos _) rfl rfl (Nat.le_of_ble_eq_true rfl) (Nat.le_of_ble_eq_true rfl) rfl rfl h (fun x12 H11 h => ?_)
      exact g_ret zp192 rfl rfl ⟨_, rfl, h⟩
  · replace h := h.2 c3
    refine g_ic zp192 rfl rfl ?_
    exact g_ret zp192 rfl rfl ⟨_, rfl, h⟩
theorem zp193 : zprog.getD 193 [] = zk193 := rfl
theorem x193_0 {w : zWt} {d : Nat} {H : zHt} {K : Int → zHt → Prop} {l1 : Int}
    (h : zclV w d 177 [zR 81, zI l1] H (fun H1 => zgo w (d + 1) 193 9 [zR 81, zJ, zI 1, zI 0] [] H1 (zQI K))) :
    zclI w (d + 1) 193 [zR 81, zI l1] H K := by
  show zgo w (d + 1) 193 0 [zR 81, zI l1, zJ, zJ] [] H (zQI K)
  refine g_al zp193 rfl rfl rfl (by decide) ?_
  refine g_il zp193 rfl rfl rfl ?_
  refine g_callV (as := [zR 81, zI l1]) (rest := []) zp193 rfl rfl (Nat.succ_pos _) rfl rfl (Nat.le_of_ble_eq_true rfl) (Nat.le_of_ble_eq_true rfl) rfl rfl h (fun H1 h => ?_)
  refine g_ic zp193 rfl rfl ?_
  refine g_is (ls' := [zR 81, zI l1, zI 1, zJ]) zp193 rfl rfl (Nat.le_of_ble_eq_true rfl) rfl ?_
  refine g_ic zp193 rfl rfl ?_
  refine g_is (ls' := [zR 81, zI l1, zI 1, zI 0]) zp193 rfl rfl (Nat.le_of_ble_eq_true rfl) rfl ?_
  exact g_weak (ls' := [zR 81, zJ, zI 1, zI 0]) ⟨Or.inr rfl, Or.inl rfl, Or.inr rfl, Or.inr rfl, trivial⟩ h
theorem x193_9 {w : zWt} {d : Nat} {H : zHt} {K : Int → zHt → Prop} {l2 : Int} {l3 : Int}
    (h : ((H 81 8) ≤ l3 → K l2 H) ∧ (l3 < (H 81 8) → (0 ≤ l3 ∧ l3 < 10) ∧ zgo w (d + 1) 193 9 [zR 81, zJ, zI (w32 (l2 * (w32 ((H 86 l3) + 1)))), zI (w32 (l3 + 1))] [] H (zQI K))) :
    zgo w (d + 1) 193 9 [zR 81, zJ, zI l2, zI l3] [] H (zQI K) := by
  refine g_il zp193 rfl rfl rfl ?_
  refine g_al zp193 rfl rfl rfl (by decide) ?_
  refine g_get (v := zI (H 81 8)) zp193 rfl rfl rfl ⟨rfl, by decide, (by decide)⟩ rfl ?_
  refine g_icmp zp193 rfl rfl zc3 (fun c1 => ?_) (fun c1 => ?_)
  · replace h := h.1 c1
    refine g_il zp193 rfl rfl rfl ?_
    exact g_ret zp193 rfl rfl ⟨_, rfl, h⟩
  · replace h := h.2 c1
    refine g_il zp193 rfl rfl rfl ?_
    refine g_al zp193 rfl rfl rfl (by decide) ?_
    refine g_get (v := zR 86) zp193 rfl rfl rfl ⟨rfl, by decide, (by decide)⟩ rfl ?_
    refine g_il zp193 rfl rfl rfl ?_
    obtain ⟨c2, h⟩ := h
    refine g_ald (v := zI (H 86 l3)) zp193 rfl rfl rfl rfl c2 rfl ?_
    refine g_ic zp193 rfl rfl ?_
    refine g_ar (r := w32 ((H 86 l3) + 1)) zp193 rfl rfl rfl ?_
    refine g_ar (r := w32 (l2 * (w32 ((H 86 l3) + 1)))) zp193 rfl rfl rfl ?_
    refine g_is (ls' := [zR 81, zJ, zI (w32 (l2 * (w32 ((H 86 l3) + 1)))), zI l3]) zp193 rfl rfl (Nat.le_of_ble_eq_true rfl) rfl ?_
    refine g_inc (ls' := [zR 81, zJ, zI (w32 (l2 * (w32 ((H 86 l3) + 1)))), zI (w32 (l3 + 1))]) zp193 rfl rfl rfl rfl ?_
    refine g_goto zp193 rfl ?_
    exact g_weak (ls' := [zR 81, zJ, zI (w32 (l2 * (w32 ((H 86 l3) + 1)))), zI (w32 (l3 + 1))]) ⟨Or.inr rfl, Or.inr rfl, Or.inr rfl, Or.inr rfl, trivial⟩ h
theorem zp194 : zprog.getD 194 [] = zk194 := rfl
theorem x194_0 {w : zWt} {d : Nat} {H : zHt} {K : zHt → Prop} {l1 : Int}
    (h : zgo w (d + 1) 194 7 [zR 81, zI l1, zI 1] [] (zup H 81 12 0) (zQV K)) :
    zclV w (d + 1) 194 [zR 81, zI l1] H K := by
  show zgo w (d + 1) 194 0 [zR 81, zI l1, zJ] [] H (zQV K)
  refine g_al zp194 rfl rfl rfl (by decide) ?_
  refine g_ic zp194 rfl rfl ?_
  refine g_putI zp194 rfl rfl rfl ⟨rfl, by decide, (by decide)⟩ rfl rfl ?_
  refine g_ic zp194 rfl rfl ?_
  refine g_is (ls' := [zR 81, zI l1, zI 1]) zp194 rfl rfl (Nat.le_of_ble_eq_true rfl) rfl ?_
  exact g_weak (ls' := [zR 81, zI l1, zI 1]) ⟨Or.inr rfl, Or.inr rfl, Or.inr rfl, trivial⟩ h
theorem x194_7 {w : zWt} {d : Nat} {H : zHt} {K : zHt → Prop} {l1 : Int} {l2 : Int}
    (h : (l1 < (w64 (l2 * l2)) → zgo w (d + 1) 194 42 [zR 81, zI l1, zI (w32 (l2 + (-1)))] [] H (zQV K)) ∧ ((w64 (l2 * l2)) ≤ l1 → (l2 ≠ 0) ∧ (¬ (Int.tmod l1 l2) = 0 → zgo w (d + 1) 194 7 [zR 81, zI l1, zI (w32 (l2 + 1))] [] H (zQV K)) ∧ ((Int.tmod l1 l2) = 0 → zclI w d 195 [zR 81, zI l2] H (fun x5 H4 => zgo w (d + 1) 194 7 [zR 81, zI l1, zI (w32 (l2 + 1))] [] (zup H4 81 12 x5) (zQV K))))) :
    zgo w (d + 1) 194 7 [zR 81, zI l1, zI l2] [] H (zQV K) := by
  refine g_il zp194 rfl rfl rfl ?_
  refine g_i2l zp194 rfl rfl ?_
  refine g_il zp194 rfl rfl rfl ?_
  refine g_i2l zp194 rfl rfl ?_
  refine g_lar (r := w64 (l2 * l2)) zp194 rfl rfl rfl ?_
  refine g_il zp194 rfl rfl rfl ?_
  refine g_i2l zp194 rfl rfl ?_
  refine g_lcmp zp194 rfl rfl rfl rfl zc4 (fun c1 => ?_) (fun c1 => ?_)
  · replace h := h.1 c1
    refine g_inc (ls' := [zR 81, zI l1, zI (w32 (l2 + (-1)))]) zp194 rfl rfl rfl rfl ?_
    exact g_weak (ls' := [zR 81, zI l1, zI (w32 (l2 + (-1)))]) ⟨Or.inr rfl, Or.inr rfl, Or.inr rfl, trivial⟩ h
  · replace h := h.2 c1
    refine g_il zp194 rfl rfl rfl ?_
    refine g_il zp194 rfl rfl rfl ?_
    obtain ⟨c2, h⟩ := h
    refine g_ar (r := Int.tmod l1 l2) zp194 rfl rfl (zr_rem c2) ?_
    refine g_if zp194 rfl rfl zc1 (fun c3 => ?_) (fun c3 => ?_)
    · replace h := h.1 c3
      refine g_inc (ls' := [zR 81, zI l1, zI (w32 (l2 + 1))]) zp194 rfl rfl rfl rfl ?_
      refine g_goto zp194 rfl ?_
      exact g_weak (ls' := [zR 81, zI l1, zI (w32 (l2 + 1))]) ⟨Or.inr rfl, Or.inr rfl, Or.inr rfl, trivial⟩ h
    · replace h := h.2 c3
      refine g_al zp194 rfl rfl rfl (by decide) ?_
      refine g_al zp194 rfl rfl rfl (by decide) ?_
      refine g_il zp194 rfl rfl rfl ?_
      refine g_callI (as := [zR 81, zI l2]) (rest := [zR 81]) zp194 rfl rfl (Nat.succ_pos _) rfl rfl (Nat.le_of_ble_eq_true rfl) (Nat.le_of_ble_eq_true rfl) rfl rfl h (fun x5 H4 h => ?_)
      refine g_putI zp194 rfl rfl rfl ⟨rfl, by decide, (by decide)⟩ rfl rfl ?_
      refine g_inc (ls' := [zR 81, zI l1, zI (w32 (l2 + 1))]) zp194 rfl rfl rfl rfl ?_
      refine g_goto zp194 rfl ?_
      exact g_weak (ls' := [zR 81, zI l1, zI (w32 (l2 + 1))]) ⟨Or.inr rfl, Or.inr rfl, Or.inr rfl, trivial⟩ h
theorem x194_42 {w : zWt} {d : Nat} {H : zHt} {K : zHt → Prop} {l1 : Int} {l2 : Int}
    (h : (l2 ≤ 0 → K H) ∧ (0 < l2 → (l2 ≠ 0) ∧ (¬ (Int.tmod l1 l2) = 0 → zgo w (d + 1) 194 42 [zR 81, zI l1, zI (w32 (l2 + (-1)))] [] H (zQV K)) ∧ ((Int.tmod l1 l2) = 0 → (l2 = (w32 (Int.tdiv l1 l2)) → zgo w (d + 1) 194 42 [zR 81, zI l1, zI (w32 (l2 + (-1)))] [] H (zQV K)) ∧ (¬ l2 = (w32 (Int.tdiv l1 l2)) → zclI w d 195 [zR 81, zI (w32 (Int.tdiv l1 l2))] H (fun x6 H5 => zgo w (d + 1) 194 42 [zR 81, zI l1, zI (w32 (l2 + (-1)))] [] (zup H5 81 12 x6) (zQV K)))))) :
    zgo w (d + 1) 194 42 [zR 81, zI l1, zI l2] [] H (zQV K) := by
  refine g_il zp194 rfl rfl rfl ?_
  refine g_if zp194 rfl rfl zc5 (fun c1 => ?_) (fun c1 => ?_)
  · replace h := h.1 c1
    exact g_ret zp194 rfl rfl ⟨rfl, h⟩
  · replace h := h.2 c1
    refine g_il zp194 rfl rfl rfl ?_
    refine g_il zp194 rfl rfl rfl ?_
    obtain ⟨c2, h⟩ := h
    refine g_ar (r := Int.tmod l1 l2) zp194 rfl rfl (zr_rem c2) ?_
    refine g_if zp194 rfl rfl zc1 (fun c3 => ?_) (fun c3 => ?_)
    · replace h := h.1 c3
      refine g_inc (ls' := [zR 81, zI l1, zI (w32 (l2 + (-1)))]) zp194 rfl rfl rfl rfl ?_
      refine g_goto zp194 rfl ?_
      exact g_weak (ls' := [zR 81, zI l1, zI (w32 (l2 + (-1)))]) ⟨Or.inr rfl, Or.inr rfl, Or.inr rfl, trivial⟩ h
    · replace h := h.2 c3
      refine g_il zp194 rfl rfl rfl ?_
      refine g_il zp194 rfl rfl rfl ?_
      refine g_il zp194 rfl rfl rfl ?_
      refine g_ar (r := w32 (Int.tdiv l1 l2)) zp194 rfl rfl (zr_div c2) ?_
      refine g_icmp zp194 rfl rfl zc0 (fun c4 => ?_) (fun c4 => ?_)
      · replace h := h.1 c4
        refine g_inc (ls' := [zR 81, zI l1, zI (w32 (l2 + (-1)))]) zp194 rfl rfl rfl rfl ?_
        refine g_goto zp194 rfl ?_
        exact g_weak (ls' := [zR 81, zI l1, zI (w32 (l2 + (-1)))]) ⟨Or.inr rfl, Or.inr rfl, Or.inr rfl, trivial⟩ h
      · replace h := h.2 c4
        refine g_al zp194 rfl rfl rfl (by decide) ?_
        refine g_al zp194 rfl rfl rfl (by decide) ?_
        refine g_il zp194 rfl rfl rfl ?_
        refine g_il zp194 rfl rfl rfl ?_
        refine g_ar (r := w32 (Int.tdiv l1 l2)) zp194 rfl rfl (zr_div c2) ?_
        refine g_callI (as := [zR 81, zI (w32 (Int.tdiv l1 l2))]) (rest := [zR 81]) zp194 rfl rfl (Nat.succ_pos _) rfl rfl (Nat.le_of_ble_eq_true rfl) (Nat.le_of_ble_eq_true rfl) rfl rfl h (fun x6 H5 h => ?_)
        refine g_putI zp194 rfl rfl rfl ⟨rfl, by decide, (by decide)⟩ rfl rfl ?_
        refine g_inc (ls' := [zR 81, zI l1, zI (w32 (l2 + (-1)))]) zp194 rfl rfl rfl rfl ?_
        refine g_goto zp194 rfl ?_
        exact g_weak (ls' := [zR 81, zI l1, zI (w32 (l2 + (-1)))]) ⟨Or.inr rfl, Or.inr rfl, Or.inr rfl, trivial⟩ h
theorem zp195 : zprog.getD 195 [] = zk195 := rfl
theorem x195_0 {w : zWt} {d : Nat} {H : zHt} {K : Int → zHt → Prop} {l1 : Int}
    (h : (0 ≤ (H 81 12) ∧ (H 81 12) < 1400) ∧ K (w32 ((H 81 12) + 1)) (zup H 87 (H 81 12) l1)) :
    zclI w d 195 [zR 81, zI l1] H K := by
  show zgo w d 195 0 [zR 81, zI l1] [] H (zQI K)
  refine g_al zp195 rfl rfl rfl (by decide) ?_
  refine g_get (v := zR 87) zp195 rfl rfl rfl ⟨rfl, by decide, (by decide)⟩ rfl ?_
  refine g_al zp195 rfl rfl rfl (by decide) ?_
  refine g_get (v := zI (H 81 12)) zp195 rfl rfl rfl ⟨rfl, by decide, (by decide)⟩ rfl ?_
  refine g_il zp195 rfl rfl rfl ?_
  obtain ⟨c1, h⟩ := h
  refine g_iast zp195 rfl rfl rfl (by decide) rfl c1 ?_
  refine g_al zp195 rfl rfl rfl (by decide) ?_
  refine g_get (v := zI (H 81 12)) zp195 rfl rfl rfl ⟨rfl, by decide, (by decide)⟩ rfl ?_
  refine g_ic zp195 rfl rfl ?_
  refine g_ar (r := w32 ((H 81 12) + 1)) zp195 rfl rfl rfl ?_
  exact g_ret zp195 rfl rfl ⟨_, rfl, h⟩
theorem zp196 : zprog.getD 196 [] = zk196 := rfl
theorem x196_0 {w : zWt} {d : Nat} {H : zHt} {K : Int → zHt → Prop} {l1 : Int}
    (h : zclI w d 173 [zL l1, zL 1, zL 3000] H (fun x2 H1 => (x2 = 0 → zclI w d 174 [zR 81, zI 1] H1 (fun x5 H4 => (¬ x5 = 0 → zclV w d 194 [zR 81, zI l1] H4 (fun H7 => zgo w (d + 1) 196 33 [zR 81, zI l1, zI 0, zJ, zJ, zJ] [] H7 (zQI K))) ∧ (x5 = 0 → K (-1) H4))) ∧ (¬ x2 = 0 → zclI w d 174 [zR 81, zI 0] H1 (fun x10 H9 => (¬ x10 = 0 → zclV w d 194 [zR 81, zI l1] H9 (fun H12 => zgo w (d + 1) 196 33 [zR 81, zI l1, zI 0, zJ, zJ, zJ] [] H12 (zQI K))) ∧ (x10 = 0 → K (-1) H9))))) :
    zclI w (d + 1) 196 [zR 81, zI l1] H K := by
  show zgo w (d + 1) 196 0 [zR 81, zI l1, zJ, zJ, zJ, zJ] [] H (zQI K)
  refine g_al zp196 rfl rfl rfl (by decide) ?_
  refine g_il zp196 rfl rfl rfl ?_
  refine g_i2l zp196 rfl rfl ?_
  refine g_lc zp196 rfl rfl ?_
  refine g_lc zp196 rfl rfl ?_
  refine g_callI (as := [zL l1, zL 1, zL 3000]) (rest := [zR 81]) zp196 rfl rfl (Nat.succ_pos _) rfl rfl (Nat.le_of_ble_eq_true rfl) (Nat.le_of_ble_eq_true rfl) rfl rfl h (fun x2 H1 h => ?_)
  refine g_if zp196 rfl rfl zc0 (fun c3 => ?_) (fun c3 => ?_)
  · replace h := h.1 c3
    refine g_ic zp196 rfl rfl ?_
    refine g_callI (as := [zR 81, zI 1]) (rest := []) zp196 rfl rfl (Nat.succ_pos _) rfl rfl (Nat.le_of_ble_eq_true rfl) (Nat.le_of_ble_eq_true rfl) rfl rfl h (fun x5 H4 h => ?_)
    refine g_if zp196 rfl rfl zc1 (fun c6 => ?_) (fun c6 => ?_)
    · replace h := h.1 c6
      refine g_al zp196 rfl rfl rfl (by decide) ?_
      refine g_il zp196 rfl rfl rfl ?_
      refine g_callV (as := [zR 81, zI l1]) (rest := []) zp196 rfl rfl (Nat.succ_pos _) rfl rfl (Nat.le_of_ble_eq_true rfl) (Nat.le_of_ble_eq_true rfl) rfl rfl h (fun H7 h => ?_)
      refine g_ic zp196 rfl rfl ?_
      refine g_is (ls' := [zR 81, zI l1, zI 0, zJ, zJ, zJ]) zp196 rfl rfl (Nat.le_of_ble_eq_true rfl) rfl ?_
      exact g_weak (ls' := [zR 81, zI l1, zI 0, zJ, zJ, zJ]) ⟨Or.inr rfl, Or.inr rfl, Or.inr rfl, Or.inr rfl, Or.inr rfl, Or.inr rfl, trivial⟩ h
    · replace h := h.2 c6
      refine g_ic zp196 rfl rfl ?_
      exact g_ret zp196 rfl rfl ⟨_, rfl, h⟩
  · replace h := h.2 c3
    refine g_ic zp196 rfl rfl ?_
    refine g_goto zp196 rfl ?_
    refine g_callI (as := [zR 81, zI 0]) (rest := []) zp196 rfl rfl (Nat.succ_pos _) rfl rfl (Nat.le_of_ble_eq_true rfl) (Nat.le_of_ble_eq_true rfl) rfl rfl h (fun x10 H9 h => ?_)
    refine g_if zp196 rfl rfl zc1 (fun c11 => ?_) (fun c11 => ?_)
    · replace h := h.1 c11
      refine g_al zp196 rfl rfl rfl (by decide) ?_
      refine g_il zp196 rfl rfl rfl ?_
      refine g_callV (as := [zR 81, zI l1]) (rest := []) zp196 rfl rfl (Nat.succ_pos _) rfl rfl (Nat.le_of_ble_eq_true rfl) (Nat.le_of_ble_eq_true rfl) rfl rfl h (fun H12 h => ?_)
      refine g_ic zp196 rfl rfl ?_
      refine g_is (ls' := [zR 81, zI l1, zI 0, zJ, zJ, zJ]) zp196 rfl rfl (Nat.le_of_ble_eq_true rfl) rfl ?_
      exact g_weak (ls' := [zR 81, zI l1, zI 0, zJ, zJ, zJ]) ⟨Or.inr rfl, Or.inr rfl, Or.inr rfl, Or.inr rfl, Or.inr rfl, Or.inr rfl, trivial⟩ h
    · replace h := h.2 c11
      refine g_ic zp196 rfl rfl ?_
      exact g_ret zp196 rfl rfl ⟨_, rfl, h⟩
theorem x196_33 {w : zWt} {d : Nat} {H : zHt} {K : Int → zHt → Prop} {l1 : Int} {l2 : Int}
    (h : (l1 < l2 → zgo w (d + 1) 196 63 [zR 81, zI l1, zI 0, zI 0, zJ, zJ] [] H (zQI K)) ∧ (l2 ≤ l1 → (¬ l2 = 0 → (0 ≤ l2 ∧ l2 < 3001) ∧ zgo w (d + 1) 196 33 [zR 81, zI l1, zI (w32 (l2 + 1)), zJ, zJ, zJ] [] (zup H 88 l2 0) (zQI K)) ∧ (l2 = 0 → (0 ≤ l2 ∧ l2 < 3001) ∧ zgo w (d + 1) 196 33 [zR 81, zI l1, zI (w32 (l2 + 1)), zJ, zJ, zJ] [] (zup H 88 l2 1) (zQI K)))) :
    zgo w (d + 1) 196 33 [zR 81, zI l1, zI l2, zJ, zJ, zJ] [] H (zQI K) := by
  refine g_il zp196 rfl rfl rfl ?_
  refine g_il zp196 rfl rfl rfl ?_
  refine g_icmp zp196 rfl rfl zc4 (fun c1 => ?_) (fun c1 => ?_)
  · replace h := h.1 c1
    refine g_ic zp196 rfl rfl ?_
    refine g_is (ls' := [zR 81, zI l1, zI 0, zJ, zJ, zJ]) zp196 rfl rfl (Nat.le_of_ble_eq_true rfl) rfl ?_
    refine g_ic zp196 rfl rfl ?_
    refine g_is (ls' := [zR 81, zI l1, zI 0, zI 0, zJ, zJ]) zp196 rfl rfl (Nat.le_of_ble_eq_true rfl) rfl ?_
    exact g_weak (ls' := [zR 81, zI l1, zI 0, zI 0, zJ, zJ]) ⟨Or.inr rfl, Or.inr rfl, Or.inr rfl, Or.inr rfl, Or.inr rfl, Or.inr rfl, trivial⟩ h
  · replace h := h.2 c1
    refine g_al zp196 rfl rfl rfl (by decide) ?_
    refine g_get (v := zR 88) zp196 rfl rfl rfl ⟨rfl, by decide, (by decide)⟩ rfl ?_
    refine g_il zp196 rfl rfl rfl ?_
    refine g_il zp196 rfl rfl rfl ?_
    refine g_if zp196 rfl rfl zc1 (fun c2 => ?_) (fun c2 => ?_)
    · replace h := h.1 c2
      refine g_ic zp196 rfl rfl ?_
      obtain ⟨c3, h⟩ := h
      refine g_zast zp196 rfl rfl rfl (by decide) rfl c3 (by decide) ?_
      refine g_inc (ls' := [zR 81, zI l1, zI (w32 (l2 + 1)), zJ, zJ, zJ]) zp196 rfl rfl rfl rfl ?_
      refine g_goto zp196 rfl ?_
      exact g_weak (ls' := [zR 81, zI l1, zI (w32 (l2 + 1)), zJ, zJ, zJ]) ⟨Or.inr rfl, Or.inr rfl, Or.inr rfl, Or.inr rfl, Or.inr rfl, Or.inr rfl, trivial⟩ h
    · replace h := h.2 c2
      refine g_ic zp196 rfl rfl ?_
      refine g_goto zp196 rfl ?_
      obtain ⟨c4, h⟩ := h
      refine g_zast zp196 rfl rfl rfl (by decide) rfl c4 (by decide) ?_
      refine g_inc (ls' := [zR 81, zI l1, zI (w32 (l2 + 1)), zJ, zJ, zJ]) zp196 rfl rfl rfl rfl ?_
      refine g_goto zp196 rfl ?_
      exact g_weak (ls' := [zR 81, zI l1, zI (w32 (l2 + 1)), zJ, zJ, zJ]) ⟨Or.inr rfl, Or.inr rfl, Or.inr rfl, Or.inr rfl, Or.inr rfl, Or.inr rfl, trivial⟩ h
theorem x196_63 {w : zWt} {d : Nat} {H : zHt} {K : Int → zHt → Prop} {l1 : Int} {l2 : Int} {l3 : Int}
    (h : ((w32 ((H 81 12) - 1)) ≤ l3 → (0 ≤ l1 ∧ l1 < 3001) ∧ ((H 88 l1) = 0 → (l2 ≤ l1 → K 0 H) ∧ (l1 < l2 → K 2 H)) ∧ (¬ (H 88 l1) = 0 → K 1 H)) ∧ (l3 < (w32 ((H 81 12) - 1)) → (0 ≤ l3 ∧ l3 < 1400) ∧ zgo w (d + 1) 196 89 [zR 81, zI l1, zI (w32 (l2 + (H 87 l3))), zI l3, zI (H 87 l3), zI l1] [] H (zQI K))) :
    zgo w (d + 1) 196 63 [zR 81, zI l1, zI l2, zI l3, zJ, zJ] [] H (zQI K) := by
  refine g_il zp196 rfl rfl rfl ?_
  refine g_al zp196 rfl rfl rfl (by decide) ?_
  refine g_get (v := zI (H 81 12)) zp196 rfl rfl rfl ⟨rfl, by decide, (by decide)⟩ rfl ?_
  refine g_ic zp196 rfl rfl ?_
  refine g_ar (r := w32 ((H 81 12) - 1)) zp196 rfl rfl rfl ?_
  refine g_icmp zp196 rfl rfl zc3 (fun c1 => ?_) (fun c1 => ?_)
  · replace h := h.1 c1
    refine g_al zp196 rfl rfl rfl (by decide) ?_
    refine g_get (v := zR 88) zp196 rfl rfl rfl ⟨rfl, by decide, (by decide)⟩ rfl ?_
    refine g_il zp196 rfl rfl rfl ?_
    obtain ⟨c2, h⟩ := h
    refine g_ald (v := zI (H 88 l1)) zp196 rfl rfl rfl rfl c2 rfl ?_
    refine g_if zp196 rfl rfl zc0 (fun c3 => ?_) (fun c3 => ?_)
    · replace h := h.1 c3
      refine g_il zp196 rfl rfl rfl ?_
      refine g_il zp196 rfl rfl rfl ?_
      refine g_icmp zp196 rfl rfl zc5 (fun c4 => ?_) (fun c4 => ?_)
      · replace h := h.1 c4
        refine g_ic zp196 rfl rfl ?_
        exact g_ret zp196 rfl rfl ⟨_, rfl, h⟩
      · replace h := h.2 c4
        refine g_ic zp196 rfl rfl ?_
        refine g_goto zp196 rfl ?_
        exact g_ret zp196 rfl rfl ⟨_, rfl, h⟩
    · replace h := h.2 c3
      refine g_ic zp196 rfl rfl ?_
      refine g_goto zp196 rfl ?_
      exact g_ret zp196 rfl rfl ⟨_, rfl, h⟩
  · replace h := h.2 c1
    refine g_al zp196 rfl rfl rfl (by decide) ?_
    refine g_get (v := zR 87) zp196 rfl rfl rfl ⟨rfl, by decide, (by decide)⟩ rfl ?_
    refine g_il zp196 rfl rfl rfl ?_
    obtain ⟨c5, h⟩ := h
    refine g_ald (v := zI (H 87 l3)) zp196 rfl rfl rfl rfl c5 rfl ?_
    refine g_is (ls' := [zR 81, zI l1, zI l2, zI l3, zI (H 87 l3), zJ]) zp196 rfl rfl (Nat.le_of_ble_eq_true rfl) rfl ?_
    refine g_il zp196 rfl rfl rfl ?_
    refine g_il zp196 rfl rfl rfl ?_
    refine g_ar (r := w32 (l2 + (H 87 l3))) zp196 rfl rfl rfl ?_
    refine g_is (ls' := [zR 81, zI l1, zI (w32 (l2 + (H 87 l3))), zI l3, zI (H 87 l3), zJ]) zp196 rfl rfl (Nat.le_of_ble_eq_true rfl) rfl ?_
    refine g_il zp196 rfl rfl rfl ?_
    refine g_is (ls' := [zR 81, zI l1, zI (w32 (l2 + (H 87 l3))), zI l3, zI (H 87 l3), zI l1]) zp196 rfl rfl (Nat.le_of_ble_eq_true rfl) rfl ?_
    exact g_weak (ls' := [zR 81, zI l1, zI (w32 (l2 + (H 87 l3))), zI l3, zI (H 87 l3), zI l1]) ⟨Or.inr rfl, Or.inr rfl, Or.inr rfl, Or.inr rfl, Or.inr rfl, Or.inr rfl, trivial⟩ h
theorem x196_89 {w : zWt} {d : Nat} {H : zHt} {K : Int → zHt → Prop} {l1 : Int} {l2 : Int} {l3 : Int} {l4 : Int} {l5 : Int}
    (h : (l5 < l4 → zgo w (d + 1) 196 63 [zR 81, zI l1, zI l2, zI (w32 (l3 + 1)), zJ, zJ] [] H (zQI K)) ∧ (l4 ≤ l5 → (0 ≤ l5 ∧ l5 < 3001) ∧ (¬ (H 88 l5) = 0 → zgo w (d + 1) 196 89 [zR 81, zI l1, zI l2, zI l3, zI l4, zI (w32 (l5 + (-1)))] [] (zup H 88 l5 1) (zQI K)) ∧ ((H 88 l5) = 0 → (0 ≤ (w32 (l5 - l4)) ∧ (w32 (l5 - l4)) < 3001) ∧ ((H 88 (w32 (l5 - l4))) = 0 → zgo w (d + 1) 196 89 [zR 81, zI l1, zI l2, zI l3, zI l4, zI (w32 (l5 + (-1)))] [] (zup H 88 l5 0) (zQI K)) ∧ (¬ (H 88 (w32 (l5 - l4))) = 0 → zgo w (d + 1) 196 89 [zR 81, zI l1, zI l2, zI l3, zI l4, zI (w32 (l5 + (-1)))] [] (zup H 88 l5 1) (zQI K))))) :
    zgo w (d + 1) 196 89 [zR 81, zI l1, zI l2, zI l3, zI l4, zI l5] [] H (zQI K) := by
  refine g_il zp196 rfl rfl rfl ?_
  refine g_il zp196 rfl rfl rfl ?_
  refine g_icmp zp196 rfl rfl zc2 (fun c1 => ?_) (fun c1 => ?_)
  · replace h := h.1 c1
    refine g_inc (ls' := [zR 81, zI l1, zI l2, zI (w32 (l3 + 1)), zI l4, zI l5]) zp196 rfl rfl rfl rfl ?_
    refine g_goto zp196 rfl ?_
    exact g_weak (ls' := [zR 81, zI l1, zI l2, zI (w32 (l3 + 1)), zJ, zJ]) ⟨Or.inr rfl, Or.inr rfl, Or.inr rfl, Or.inr rfl, Or.inl rfl, Or.inl rfl, trivial⟩ h
  · replace h := h.2 c1
    refine g_al zp196 rfl rfl rfl (by decide) ?_
    refine g_get (v := zR 88) zp196 rfl rfl rfl ⟨rfl, by decide, (by decide)⟩ rfl ?_
    refine g_il zp196 rfl rfl rfl ?_
    refine g_al zp196 rfl rfl rfl (by decide) ?_
    refine g_get (v := zR 88) zp196 rfl rfl rfl ⟨rfl, by decide, (by decide)⟩ rfl ?_
    refine g_il zp196 rfl rfl rfl ?_
    obtain ⟨c2, h⟩ := h
    refine g_ald (v := zI (H 88 l5)) zp196 rfl rfl rfl rfl c2 rfl ?_
    refine g_if zp196 rfl rfl zc1 (fun c3 => ?_) (fun c3 => ?_)
    · replace h := h.1 c3
      refine g_ic zp196 rfl rfl ?_
      refine g_goto zp196 rfl ?_
      refine g_zast zp196 rfl rfl rfl (by decide) rfl c2 (by decide) ?_
      refine g_inc (ls' := [zR 81, zI l1, zI l2, zI l3, zI l4, zI (w32 (l5 + (-1)))]) zp196 rfl rfl rfl rfl ?_
      refine g_goto zp196 rfl ?_
      exact g_weak (ls' := [zR 81, zI l1, zI l2, zI l3, zI l4, zI (w32 (l5 + (-1)))]) ⟨Or.inr rfl, Or.inr rfl, Or.inr rfl, Or.inr rfl, Or.inr rfl, Or.inr rfl, trivial⟩ h
    · replace h := h.2 c3
      refine g_al zp196 rfl rfl rfl (by decide) ?_
      refine g_get (v := zR 88) zp196 rfl rfl rfl ⟨rfl, by decide, (by decide)⟩ rfl ?_
      refine g_il zp196 rfl rfl rfl ?_
      refine g_il zp196 rfl rfl rfl ?_
      refine g_ar (r := w32 (l5 - l4)) zp196 rfl rfl rfl ?_
      obtain ⟨c4, h⟩ := h
      refine g_ald (v := zI (H 88 (w32 (l5 - l4)))) zp196 rfl rfl rfl rfl c4 rfl ?_
      refine g_if zp196 rfl rfl zc0 (fun c5 => ?_) (fun c5 => ?_)
      · replace h := h.1 c5
        refine g_ic zp196 rfl rfl ?_
        refine g_zast zp196 rfl rfl rfl (by decide) rfl c2 (by decide) ?_
        refine g_inc (ls' := [zR 81, zI l1, zI l2, zI l3, zI l4, zI (w32 (l5 + (-1)))]) zp196 rfl rfl rfl rfl ?_
        refine g_goto zp196 rfl ?_
        exact g_weak (ls' := [zR 81, zI l1, zI l2, zI l3, zI l4, zI (w32 (l5 + (-1)))]) ⟨Or.inr rfl, Or.inr rfl, Or.inr rfl, Or.inr rfl, Or.inr rfl, Or.inr rfl, trivial⟩ h
      · replace h := h.2 c5
        refine g_ic zp196 rfl rfl ?_
        refine g_goto zp196 rfl ?_
        refine g_zast zp196 rfl rfl rfl (by decide) rfl c2 (by decide) ?_
        refine g_inc (ls' := [zR 81, zI l1, zI l2, zI l3, zI l4, zI (w32 (l5 + (-1)))]) zp196 rfl rfl rfl rfl ?_
        refine g_goto zp196 rfl ?_
        exact g_weak (ls' := [zR 81, zI l1, zI l2, zI l3, zI l4, zI (w32 (l5 + (-1)))]) ⟨Or.inr rfl, Or.inr rfl, Or.inr rfl, Or.inr rfl, Or.inr rfl, Or.inr rfl, trivial⟩ h
theorem zp197 : zprog.getD 197 [] = zk197 := rfl
theorem x197_0 {w : zWt} {d : Nat} {H : zHt} {K : Int → zHt → Prop} {l1 : Int} {l2 : Int}
    (h : zclI w d 176 [zI l1] H (fun x2 H1 => (x2 = 0 → zclI w d 174 [zR 81, zI 1] H1 (fun x5 H4 => (x5 = 0 → K (-1) H4) ∧ (¬ x5 = 0 → zclL w d 182 [zR 81, zI l1] H4 (fun x8 H7 => zclL w d 198 [zL x8, zL l1, zI l2] H7 (fun x10 H9 => K x10 H9))))) ∧ (¬ x2 = 0 → zclI w d 173 [zL l2, zL 0, zL 1] H1 (fun x12 H11 => (x12 = 0 → zclI w d 174 [zR 81, zI 1] H11 (fun x15 H14 => (x15 = 0 → K (-1) H14) ∧ (¬ x15 = 0 → zclL w d 182 [zR 81, zI l1] H14 (fun x18 H17 => zclL w d 198 [zL x18, zL l1, zI l2] H17 (fun x20 H19 => K x20 H19))))) ∧ (¬ x12 = 0 → zclI w d 174 [zR 81, zI 0] H11 (fun x22 H21 => (x22 = 0 → K (-1) H21) ∧ (¬ x22 = 0 → zclL w d 182 [zR 81, zI l1] H21 (fun x25 H24 => zclL w d 198 [zL x25, zL l1, zI l2] H24 (fun x27 H26 => K x27 H26))))))))) :
    zclL w (d + 1) 197 [zR 81, zI l1, zI l2] H K := by
  show zgo w (d + 1) 197 0 [zR 81, zI l1, zI l2] [] H (zQL K)
  refine g_al zp197 rfl rfl rfl (by decide) ?_
  refine g_il zp197 rfl rfl rfl ?_
  refine g_callI (as := [zI l1]) (rest := [zR 81]) zp197 rfl rfl (Nat.succ_pos _) rfl rfl (Nat.le_of_ble_eq_true rfl) (Nat.le_of_ble_eq_true rfl) rfl rfl h (fun x2 H1 h => ?_)
  refine g_if zp197 rfl rfl zc0 (fun c3 => ?_) (fun c3 => ?_)
  · replace h := h.1 c3
    refine g_ic zp197 rfl rfl ?_
    refine g_callI (as := [zR 81, zI 1]) (rest := []) zp197 rfl rfl (Nat.succ_pos _) rfl rfl (Nat.le_of_ble_eq_true rfl) (Nat.le_of_ble_eq_true rfl) rfl rfl h (fun x5 H4 h => ?_)
    refine g_if zp197 rfl rfl zc0 (fun c6 => ?_) (fun c6 => ?_)
    · replace h := h.1 c6
      refine g_lc zp197 rfl rfl ?_
      exact g_ret zp197 rfl rfl ⟨_, rfl, h⟩
    · replace h := h.2 c6
      refine g_al zp197 rfl rfl rfl (by decide) ?_
      refine g_il zp197 rfl rfl rfl ?_
      refine g_callL (as := [zR 81, zI l1]) (rest := []) zp197 rfl rfl (Nat.succ_pos _) rfl rfl (Nat.le_of_ble_eq_true rfl) (Nat.le_of_ble_eq_true rfl) rfl rfl h (fun x8 H7 h => ?_)
      refine g_il zp197 rfl rfl rfl ?_
      refine g_i2l zp197 rfl rfl ?_
      refine g_il zp197 rfl rfl rfl ?_
      refine g_callL (as := [zL x8, zL l1, zI l2]) (rest := []) zp197 rfl rfl (Nat.succ_pos _) rfl rfl (Nat.le_of_ble_eq_true rfl) (Nat.le_of_ble_eq_true rfl) rfl rfl h (fun x10 H9 h => ?_)
      refine g_goto zp197 rfl ?_
      exact g_ret zp197 rfl rfl ⟨_, rfl, h⟩
  · replace h := h.2 c3
    refine g_il zp197 rfl rfl rfl ?_
    refine g_i2l zp197 rfl rfl ?_
    refine g_lc zp197 rfl rfl ?_
    refine g_lc zp197 rfl rfl ?_
    refine g_callI (as := [zL l2, zL 0, zL 1]) (rest := [zR 81]) zp197 rfl rfl (Nat.succ_pos _) rfl rfl (Nat.le_of_ble_eq_true rfl) (Nat.le_of_ble_eq_true rfl) rfl rfl h (fun x12 H11 h => ?_)
    refine g_if zp197 rfl rfl zc0 (fun c13 => ?_) (fun c13 => ?_)
    · replace h := h.1 c13
      refine g_ic zp197 rfl rfl ?_
      refine g_callI (as := [zR 81, zI 1]) (rest := []) zp197 rfl rfl (Nat.succ_pos _) rfl rfl (Nat.le_of_ble_eq_true rfl) (Nat.le_of_ble_eq_true rfl) rfl rfl h (fun x15 H14 h => ?_)
      refine g_if zp197 rfl rfl zc0 (fun c16 => ?_) (fun c16 => ?_)
      · replace h := h.1 c16
        refine g_lc zp197 rfl rfl ?_
        exact g_ret zp197 rfl rfl ⟨_, rfl, h⟩
      · replace h := h.2 c16
        refine g_al zp197 rfl rfl rfl (by decide) ?_
        refine g_il zp197 rfl rfl rfl ?_
        refine g_callL (as := [zR 81, zI l1]) (rest := []) zp197 rfl rfl (Nat.succ_pos _) rfl rfl (Nat.le_of_ble_eq_true rfl) (Nat.le_of_ble_eq_true rfl) rfl rfl h (fun x18 H17 h => ?_)
        refine g_il zp197 rfl rfl rfl ?_
        refine g_i2l zp197 rfl rfl ?_
        refine g_il zp197 rfl rfl rfl ?_
        refine g_callL (as := [zL x18, zL l1, zI l2]) (rest := []) zp197 rfl rfl (Nat.succ_pos _) rfl rfl (Nat.le_of_ble_eq_true rfl) (Nat.le_of_ble_eq_true rfl) rfl rfl h (fun x20 H19 h => ?_)
        refine g_goto zp197 rfl ?_
        exact g_ret zp197 rfl rfl ⟨_, rfl, h⟩
    · replace h := h.2 c13
      refine g_ic zp197 rfl rfl ?_
      refine g_goto zp197 rfl ?_
      refine g_callI (as := [zR 81, zI 0]) (rest := []) zp197 rfl rfl (Nat.succ_pos _) rfl rfl (Nat.le_of_ble_eq_true rfl) (Nat.le_of_ble_eq_true rfl) rfl rfl h (fun x22 H21 h => ?_)
      refine g_if zp197 rfl rfl zc0 (fun c23 => ?_) (fun c23 => ?_)
      · replace h := h.1 c23
        refine g_lc zp197 rfl rfl ?_
        exact g_ret zp197 rfl rfl ⟨_, rfl, h⟩
      · replace h := h.2 c23
        refine g_al zp197 rfl rfl rfl (by decide) ?_
        refine g_il zp197 rfl rfl rfl ?_
        refine g_callL (as := [zR 81, zI l1]) (rest := []) zp197 rfl rfl (Nat.succ_pos _) rfl rfl (Nat.le_of_ble_eq_true rfl) (Nat.le_of_ble_eq_true rfl) rfl rfl h (fun x25 H24 h => ?_)
        refine g_il zp197 rfl rfl rfl ?_
        refine g_i2l zp197 rfl rfl ?_
        refine g_il zp197 rfl rfl rfl ?_
        refine g_callL (as := [zL x25, zL l1, zI l2]) (rest := []) zp197 rfl rfl (Nat.succ_pos _) rfl rfl (Nat.le_of_ble_eq_true rfl) (Nat.le_of_ble_eq_true rfl) rfl rfl h (fun x27 H26 h => ?_)
        refine g_goto zp197 rfl ?_
        exact g_ret zp197 rfl rfl ⟨_, rfl, h⟩
theorem zp198 : zprog.getD 198 [] = zk198 := rfl
theorem x198_0 {w : zWt} {d : Nat} {H : zHt} {K : Int → zHt → Prop} {l0 : Int} {l2 : Int} {l4 : Int}
    (h : zclL w d 189 [zL l0, zL l2] H (fun x2 H1 => (¬ l4 = 0 → (x2 ≠ 0) ∧ K (w64 (Int.tdiv l2 x2)) H1) ∧ (l4 = 0 → (x2 ≠ 0) ∧ K (w64 (Int.tdiv l0 x2)) H1))) :
    zclL w (d + 1) 198 [zL l0, zL l2, zI l4] H K := by
  show zgo w (d + 1) 198 0 [zL l0, zJ, zL l2, zJ, zI l4, zJ, zJ] [] H (zQL K)
  refine g_ll zp198 rfl rfl rfl ?_
  refine g_ll zp198 rfl rfl rfl ?_
  refine g_callL (as := [zL l0, zL l2]) (rest := []) zp198 rfl rfl (Nat.succ_pos _) rfl rfl (Nat.le_of_ble_eq_true rfl) (Nat.le_of_ble_eq_true rfl) rfl rfl h (fun x2 H1 h => ?_)
  refine g_ls (ls' := [zL l0, zJ, zL l2, zJ, zI l4, zL x2, zJ]) zp198 rfl rfl (Nat.le_of_ble_eq_true rfl) rfl ?_
  refine g_il zp198 rfl rfl rfl ?_
  refine g_if zp198 rfl rfl zc1 (fun c3 => ?_) (fun c3 => ?_)
  · replace h := h.1 c3
    refine g_ll zp198 rfl rfl rfl ?_
    refine g_ll zp198 rfl rfl rfl ?_
    obtain ⟨c4, h⟩ := h
    refine g_lar (r := w64 (Int.tdiv l2 x2)) zp198 rfl rfl (zr_ldiv c4) ?_
    exact g_ret zp198 rfl rfl ⟨_, rfl, h⟩
  · replace h := h.2 c3
    refine g_ll zp198 rfl rfl rfl ?_
    refine g_ll zp198 rfl rfl rfl ?_
    obtain ⟨c5, h⟩ := h
    refine g_lar (r := w64 (Int.tdiv l0 x2)) zp198 rfl rfl (zr_ldiv c5) ?_
    refine g_goto zp198 rfl ?_
    exact g_ret zp198 rfl rfl ⟨_, rfl, h⟩
theorem zp199 : zprog.getD 199 [] = zk199 := rfl
theorem x199_0 {w : zWt} {d : Nat} {H : zHt} {K : Int → zHt → Prop} {l1 : Int} {l2 : Int}
    (h : zclI w d 176 [zI l1] H (fun x2 H1 => (x2 = 0 → zgo w (d + 1) 199 17 [zR 81, zI l1, zI l2] [zI 1, zR 81] H1 (zQI K)) ∧ (¬ x2 = 0 → (l2 < 0 → zgo w (d + 1) 199 17 [zR 81, zI l1, zI l2] [zI 1, zR 81] H1 (zQI K)) ∧ (0 ≤ l2 → zgo w (d + 1) 199 17 [zR 81, zI l1, zI l2] [zI 0, zR 81] H1 (zQI K))))) :
    zclI w (d + 1) 199 [zR 81, zI l1, zI l2] H K := by
  show zgo w (d + 1) 199 0 [zR 81, zI l1, zI l2] [] H (zQI K)
  refine g_al zp199 rfl rfl rfl (by decide) ?_
  refine g_il zp199 rfl rfl rfl ?_
  refine g_callI (as := [zI l1]) (rest := [zR 81]) zp199 rfl rfl (Nat.succ_pos _) rfl rfl (Nat.le_of_ble_eq_true rfl) (Nat.le_of_ble_eq_true rfl) rfl rfl h (fun x2 H1 h => ?_)
  refine g_if zp199 rfl rfl zc0 (fun c3 => ?_) (fun c3 => ?_)
  · replace h := h.1 c3
    refine g_ic zp199 rfl rfl ?_
    exact g_weak (ls' := [zR 81, zI l1, zI l2]) ⟨Or.inr rfl, Or.inr rfl, Or.inr rfl, trivial⟩ h
  · replace h := h.2 c3
    refine g_il zp199 rfl rfl rfl ?_
    refine g_if zp199 rfl rfl zc2 (fun c4 => ?_) (fun c4 => ?_)
    · replace h := h.1 c4
      refine g_ic zp199 rfl rfl ?_
      exact g_weak (ls' := [zR 81, zI l1, zI l2]) ⟨Or.inr rfl, Or.inr rfl, Or.inr rfl, trivial⟩ h
    · replace h := h.2 c4
      refine g_ic zp199 rfl rfl ?_
      refine g_goto zp199 rfl ?_
      exact g_weak (ls' := [zR 81, zI l1, zI l2]) ⟨Or.inr rfl, Or.inr rfl, Or.inr rfl, trivial⟩ h
theorem x199_17 {w : zWt} {d : Nat} {H : zHt} {K : Int → zHt → Prop} {l1 : Int} {l2 : Int} {s1 : Int}
    (h : zclI w d 174 [zR 81, zI s1] H (fun x2 H1 => (¬ x2 = 0 → zclV w d 177 [zR 81, zI l1] H1 (fun H4 => ((H4 81 8) ≤ l2 → zclI w d 178 [zR 81, zI 5] H4 (fun x8 H7 => K x8 H7)) ∧ (l2 < (H4 81 8) → (0 ≤ l2 ∧ l2 < 10) ∧ zclL w d 183 [zI (H4 85 l2), zI (H4 86 l2)] H4 (fun x11 H10 => zclL w d 184 [zI (H10 85 l2), zI (H10 86 l2)] H10 (fun x13 H12 => (x13 ≠ 0) ∧ K (w32 (w64 (Int.tdiv (w64 (1000 * x11)) x13))) H12))))) ∧ (x2 = 0 → K (-1) H1))) :
    zgo w (d + 1) 199 17 [zR 81, zI l1, zI l2] [zI s1, zR 81] H (zQI K) := by
  refine g_callI (as := [zR 81, zI s1]) (rest := []) zp199 rfl rfl (Nat.succ_pos _) rfl rfl (Nat.le_of_ble_eq_true rfl) (Nat.le_of_ble_eq_true rfl) rfl rfl h (fun x2 H1 h => ?_)
  refine g_if zp199 rfl rfl zc1 (fun c3 => ?_) (fun c3 => ?_)
  · replace h := h.1 c3
    refine g_al zp199 rfl rfl rfl (by decide) ?_
    refine g_il zp199 rfl rfl rfl ?_
    refine g_callV (as := [zR 81, zI l1]) (rest := []) zp199 rfl rfl (Nat.succ_pos _) rfl rfl (Nat.le_of_ble_eq_true rfl) (Nat.le_of_ble_eq_true rfl) rfl rfl h (fun H4 h => ?_)
    refine g_il zp199 rfl rfl rfl ?_
    refine g_al zp199 rfl rfl rfl (by decide) ?_
    refine g_get (v := zI (H4 81 8)) zp199 rfl rfl rfl ⟨rfl, by decide, (by decide)⟩ rfl ?_
    refine g_icmp zp199 rfl rfl zc3 (fun c6 => ?_) (fun c6 => ?_)
    · replace h := h.1 c6
      refine g_al zp199 rfl rfl rfl (by decide) ?_
      refine g_ic zp199 rfl rfl ?_
      refine g_callI (as := [zR 81, zI 5]) (rest := []) zp199 rfl rfl (Nat.succ_pos _) rfl rfl (Nat.le_of_ble_eq_true rfl) (Nat.le_of_ble_eq_true rfl) rfl rfl h (fun x8 H7 h => ?_)
      exact g_ret zp199 rfl rfl ⟨_, rfl, h⟩
    · replace h := h.2 c6
      refine g_lc zp199 rfl rfl ?_
      refine g_al zp199 rfl rfl rfl (by decide) ?_
      refine g_get (v := zR 85) zp199 rfl rfl rfl ⟨rfl, by decide, (by decide)⟩ rfl ?_
      refine g_il zp199 rfl rfl rfl ?_
      obtain ⟨c9, h⟩ := h
      refine g_ald (v := zI (H4 85 l2)) zp199 rfl rfl rfl rfl c9 rfl ?_
      refine g_al zp199 rfl rfl rfl (by decide) ?_
      refine g_get (v := zR 86) zp199 rfl rfl rfl ⟨rfl, by decide, (by decide)⟩ rfl ?_
      refine g_il zp199 rfl rfl rfl ?_
      refine g_ald (v := zI (H4 86 l2)) zp199 rfl rfl rfl rfl c9 rfl ?_
      refine g_callL (as := [zI (H4 85 l2), zI (H4 86 l2)]) (rest := [zL 1000]) zp199 rfl rfl (Nat.succ_pos _) rfl rfl (Nat.le_of_ble_eq_true rfl) (Nat.le_of_ble_eq_true rfl) rfl rfl h (fun x11 H10 h => ?_)
      refine g_lar (r := w64 (1000 * x11)) zp199 rfl rfl rfl ?_
      refine g_al zp199 rfl rfl rfl (by decide) ?_
      refine g_get (v := zR 85) zp199 rfl rfl rfl ⟨rfl, by decide, (by decide)⟩ rfl ?_
      refine g_il zp199 rfl rfl rfl ?_
      refine g_ald (v := zI (H10 85 l2)) zp199 rfl rfl rfl rfl c9 rfl ?_
      refine g_al zp199 rfl rfl rfl (by decide) ?_
      refine g_get (v := zR 86) zp199 rfl rfl rfl ⟨rfl, by decide, (by decide)⟩ rfl ?_
      refine g_il zp199 rfl rfl rfl ?_
      refine g_ald (v := zI (H10 86 l2)) zp199 rfl rfl rfl rfl c9 rfl ?_
      refine g_callL (as := [zI (H10 85 l2), zI (H10 86 l2)]) (rest := [zL (w64 (1000 * x11))]) zp199 rfl rfl (Nat.succ_pos _) rfl rfl (Nat.le_of_ble_eq_true rfl) (Nat.le_of_ble_eq_true rfl) rfl rfl h (fun x13 H12 h => ?_)
      obtain ⟨c14, h⟩ := h
      refine g_lar (r := w64 (Int.tdiv (w64 (1000 * x11)) x13)) zp199 rfl rfl (zr_ldiv c14) ?_
      refine g_l2i zp199 rfl rfl ?_
      refine g_goto zp199 rfl ?_
      exact g_ret zp199 rfl rfl ⟨_, rfl, h⟩
  · replace h := h.2 c3
    refine g_ic zp199 rfl rfl ?_
    exact g_ret zp199 rfl rfl ⟨_, rfl, h⟩
theorem zp200 : zprog.getD 200 [] = zk200 := rfl
theorem x200_0 {w : zWt} {d : Nat} {H : zHt} {K : Int → zHt → Prop} {l1 : Int} {l2 : Int} {l3 : Int} {l4 : Int}
    (h : zclI w d 176 [zI l1] H (fun x2 H1 => (x2 = 0 → zclI w d 174 [zR 81, zI 1] H1 (fun x5 H4 => (¬ x5 = 0 → zclL w d 182 [zR 81, zI l1] H4 (fun x8 H7 => zgo w (d + 1) 200 51 [zR 81, zI l1, zJ, zI l3, zI l4, zL x8, zJ, zI 0, zI l2] [] H7 (zQI K))) ∧ (x5 = 0 → K (-1) H4))) ∧ (¬ x2 = 0 → zclI w d 201 [zI l2, zI l3, zI 500] H1 (fun x10 H9 => (x10 = 0 → zclI w d 174 [zR 81, zI 1] H9 (fun x13 H12 => (¬ x13 = 0 → zclL w d 182 [zR 81, zI l1] H12 (fun x16 H15 => zgo w (d + 1) 200 51 [zR 81, zI l1, zJ, zI l3, zI l4, zL x16, zJ, zI 0, zI l2] [] H15 (zQI K))) ∧ (x13 = 0 → K (-1) H12))) ∧ (¬ x10 = 0 → (l4 < (-1) → zclI w d 174 [zR 81, zI 1] H9 (fun x19 H18 => (¬ x19 = 0 → zclL w d 182 [zR 81, zI l1] H18 (fun x22 H21 => zgo w (d + 1) 200 51 [zR 81, zI l1, zJ, zI l3, zI l4, zL x22, zJ, zI 0, zI l2] [] H21 (zQI K))) ∧ (x19 = 0 → K (-1) H18))) ∧ ((-1) ≤ l4 → zclI w d 174 [zR 81, zI 0] H9 (fun x24 H23 => (¬ x24 = 0 → zclL w d 182 [zR 81, zI l1] H23 (fun x27 H26 => zgo w (d + 1) 200 51 [zR 81, zI l1, zJ, zI l3, zI l4, zL x27, zJ, zI 0, zI l2] [] H26 (zQI K))) ∧ (x24 = 0 → K (-1) H23)))))))) :
    zclI w (d + 1) 200 [zR 81, zI l1, zI l2, zI l3, zI l4] H K := by
  show zgo w (d + 1) 200 0 [zR 81, zI l1, zI l2, zI l3, zI l4, zJ, zJ, zJ, zJ] [] H (zQI K)
  refine g_al zp200 rfl rfl rfl (by decide) ?_
  refine g_il zp200 rfl rfl rfl ?_
  refine g_callI (as := [zI l1]) (rest := [zR 81]) zp200 rfl rfl (Nat.succ_pos _) rfl rfl (Nat.le_of_ble_eq_true rfl) (Nat.le_of_ble_eq_true rfl) rfl rfl h (fun x2 H1 h => ?_)
  refine g_if zp200 rfl rfl zc0 (fun c3 => ?_) (fun c3 => ?_)
  · replace h := h.1 c3
    refine g_ic zp200 rfl rfl ?_
    refine g_callI (as := [zR 81, zI 1]) (rest := []) zp200 rfl rfl (Nat.succ_pos _) rfl rfl (Nat.le_of_ble_eq_true rfl) (Nat.le_of_ble_eq_true rfl) rfl rfl h (fun x5 H4 h => ?_)
    refine g_if zp200 rfl rfl zc1 (fun c6 => ?_) (fun c6 => ?_)
    · replace h := h.1 c6
      refine g_al zp200 rfl rfl rfl (by decide) ?_
      refine g_il zp200 rfl rfl rfl ?_
      refine g_callL (as := [zR 81, zI l1]) (rest := []) zp200 rfl rfl (Nat.succ_pos _) rfl rfl (Nat.le_of_ble_eq_true rfl) (Nat.le_of_ble_eq_true rfl) rfl rfl h (fun x8 H7 h => ?_)
      refine g_ls (ls' := [zR 81, zI l1, zI l2, zI l3, zI l4, zL x8, zJ, zJ, zJ]) zp200 rfl rfl (Nat.le_of_ble_eq_true rfl) rfl ?_
      refine g_ic zp200 rfl rfl ?_
      refine g_is (ls' := [zR 81, zI l1, zI l2, zI l3, zI l4, zL x8, zJ, zI 0, zJ]) zp200 rfl rfl (Nat.le_of_ble_eq_true rfl) rfl ?_
      refine g_il zp200 rfl rfl rfl ?_
      refine g_is (ls' := [zR 81, zI l1, zI l2, zI l3, zI l4, zL x8, zJ, zI 0, zI l2]) zp200 rfl rfl (Nat.le_of_ble_eq_true rfl) rfl ?_
      exact g_weak (ls' := [zR 81, zI l1, zJ, zI l3, zI l4, zL x8, zJ, zI 0, zI l2]) ⟨Or.inr rfl, Or.inr rfl, Or.inl rfl, Or.inr rfl, Or.inr rfl, Or.inr rfl, Or.inr rfl, Or.inr rfl, Or.inr rfl, trivial⟩ h
    · replace h := h.2 c6
      refine g_ic zp200 rfl rfl ?_
      exact g_ret zp200 rfl rfl ⟨_, rfl, h⟩
  · replace h := h.2 c3
    refine g_il zp200 rfl rfl rfl ?_
    refine g_il zp200 rfl rfl rfl ?_
    refine g_ic zp200 rfl rfl ?_
    refine g_callI (as := [zI l2, zI l3, zI 500]) (rest := [zR 81]) zp200 rfl rfl (Nat.succ_pos _) rfl rfl (Nat.le_of_ble_eq_true rfl) (Nat.le_of_ble_eq_true rfl) rfl rfl h (fun x10 H9 h => ?_)
    refine g_if zp200 rfl rfl zc0 (fun c11 => ?_) (fun c11 => ?_)
    · replace h := h.1 c11
      refine g_ic zp200 rfl rfl ?_
      refine g_callI (as := [zR 81, zI 1]) (rest := []) zp200 rfl rfl (Nat.succ_pos _) rfl rfl (Nat.le_of_ble_eq_true rfl) (Nat.le_of_ble_eq_true rfl) rfl rfl h (fun x13 H12 h => ?_)
      refine g_if zp200 rfl rfl zc1 (fun c14 => ?_) (fun c14 => ?_)
      · replace h := h.1 c14
        refine g_al zp200 rfl rfl rfl (by decide) ?_
        refine g_il zp200 rfl rfl rfl ?_
        refine g_callL (as := [zR 81, zI l1]) (rest := []) zp200 rfl rfl (Nat.succ_pos _) rfl rfl (Nat.le_of_ble_eq_true rfl) (Nat.le_of_ble_eq_true rfl) rfl rfl h (fun x16 H15 h => ?_)
        refine g_ls (ls' := [zR 81, zI l1, zI l2, zI l3, zI l4, zL x16, zJ, zJ, zJ]) zp200 rfl rfl (Nat.le_of_ble_eq_true rfl) rfl ?_
        refine g_ic zp200 rfl rfl ?_
        refine g_is (ls' := [zR 81, zI l1, zI l2, zI l3, zI l4, zL x16, zJ, zI 0, zJ]) zp200 rfl rfl (Nat.le_of_ble_eq_true rfl) rfl ?_
        refine g_il zp200 rfl rfl rfl ?_
        refine g_is (ls' := [zR 81, zI l1, zI l2, zI l3, zI l4, zL x16, zJ, zI 0, zI l2]) zp200 rfl rfl (Nat.le_of_ble_eq_true rfl) rfl ?_
        exact g_weak (ls' := [zR 81, zI l1, zJ, zI l3, zI l4, zL x16, zJ, zI 0, zI l2]) ⟨Or.inr rfl, Or.inr rfl, Or.inl rfl, Or.inr rfl, Or.inr rfl, Or.inr rfl, Or.inr rfl, Or.inr rfl, Or.inr rfl, trivial⟩ h
      · replace h := h.2 c14
        refine g_ic zp200 rfl rfl ?_
        exact g_ret zp200 rfl rfl ⟨_, rfl, h⟩
    · replace h := h.2 c11
      refine g_il zp200 rfl rfl rfl ?_
      refine g_ic zp200 rfl rfl ?_
      refine g_icmp zp200 rfl rfl zc2 (fun c17 => ?_) (fun c17 => ?_)
      · replace h := h.1 c17
        refine g_ic zp200 rfl rfl ?_
        refine g_callI (as := [zR 81, zI 1]) (rest := []) zp200 rfl rfl (Nat.succ_pos _) rfl rfl (Nat.le_of_ble_eq_true rfl) (Nat.le_of_ble_eq_true rfl) rfl rfl h (fun x19 H18 h => ?_)
        refine g_if zp200 rfl rfl zc1 (fun c20 => ?_) (fun c20 => ?_)
        · replace h := h.1 c20
          refine g_al zp200 rfl rfl rfl (by decide) ?_
          refine g_il zp200 rfl rfl rfl ?_
          refine g_callL (as := [zR 81, zI l1]) (rest := []) zp200 rfl rfl (Nat.succ_pos _) rfl rfl (Nat.le_of_ble_eq_true rfl) (Nat.le_of_ble_eq_true rfl) rfl rfl h (fun x22 H21 h => ?_)
          refine g_ls (ls' := [zR 81, zI l1, zI l2, zI l3, zI l4, zL x22, zJ, zJ, zJ]) zp200 rfl rfl (Nat.le_of_ble_eq_true rfl) rfl ?_
          refine g_ic zp200 rfl rfl ?_
          refine g_is (ls' := [zR 81, zI l1, zI l2, zI l3, zI l4, zL x22, zJ, zI 0, zJ]) zp200 rfl rfl (Nat.le_of_ble_eq_true rfl) rfl ?_
          refine g_il zp200 rfl rfl rfl ?_
          refine g_is (ls' := [zR 81, zI l1, zI l2, zI l3, zI l4, zL x22, zJ, zI 0, zI l2]) zp200 rfl rfl (Nat.le_of_ble_eq_true rfl) rfl ?_
          exact g_weak (ls' := [zR 81, zI l1, zJ, zI l3, zI l4, zL x22, zJ, zI 0, zI l2]) ⟨Or.inr rfl, Or.inr rfl, Or.inl rfl, Or.inr rfl, Or.inr rfl, Or.inr rfl, Or.inr rfl, Or.inr rfl, Or.inr rfl, trivial⟩ h
        · replace h := h.2 c20
          refine g_ic zp200 rfl rfl ?_
          exact g_ret zp200 rfl rfl ⟨_, rfl, h⟩
      · replace h := h.2 c17
        refine g_ic zp200 rfl rfl ?_
        refine g_goto zp200 rfl ?_
        refine g_callI (as := [zR 81, zI 0]) (rest := []) zp200 rfl rfl (Nat.succ_pos _) rfl rfl (Nat.le_of_ble_eq_true rfl) (Nat.le_of_ble_eq_true rfl) rfl rfl h (fun x24 H23 h => ?_)
        refine g_if zp200 rfl rfl zc1 (fun c25 => ?_) (fun c25 => ?_)
        · replace h := h.1 c25
          refine g_al zp200 rfl rfl rfl (by decide) ?_
          refine g_il zp200 rfl rfl rfl ?_
          refine g_callL (as := [zR 81, zI l1]) (rest := []) zp200 rfl rfl (Nat.succ_pos _) rfl rfl (Nat.le_of_ble_eq_true rfl) (Nat.le_of_ble_eq_true rfl) rfl rfl h (fun x27 H26 h => ?_)
          refine g_ls (ls' := [zR 81, zI l1, zI l2, zI l3, zI l4, zL x27, zJ, zJ, zJ]) zp200 rfl rfl (Nat.le_of_ble_eq_true rfl) rfl ?_
          refine g_ic zp200 rfl rfl ?_
          refine g_is (ls' := [zR 81, zI l1, zI l2, zI l3, zI l4, zL x27, zJ, zI 0, zJ]) zp200 rfl rfl (Nat.le_of_ble_eq_true rfl) rfl ?_
          refine g_il zp200 rfl rfl rfl ?_
          refine g_is (ls' := [zR 81, zI l1, zI l2, zI l3, zI l4, zL x27, zJ, zI 0, zI l2]) zp200 rfl rfl (Nat.le_of_ble_eq_true rfl) rfl ?_
          exact g_weak (ls' := [zR 81, zI l1, zJ, zI l3, zI l4, zL x27, zJ, zI 0, zI l2]) ⟨Or.inr rfl, Or.inr rfl, Or.inl rfl, Or.inr rfl, Or.inr rfl, Or.inr rfl, Or.inr rfl, Or.inr rfl, Or.inr rfl, trivial⟩ h
        · replace h := h.2 c25
          refine g_ic zp200 rfl rfl ?_
          exact g_ret zp200 rfl rfl ⟨_, rfl, h⟩
theorem x200_51 {w : zWt} {d : Nat} {H : zHt} {K : Int → zHt → Prop} {l1 : Int} {l3 : Int} {l4 : Int} {l5 : Int} {l7 : Int} {l8 : Int}
    (h : (l3 < l8 → (¬ l4 = (-1) → zclI w d 178 [zR 81, zI 5] H (fun x4 H3 => K x4 H3)) ∧ (l4 = (-1) → K l7 H)) ∧ (l8 ≤ l3 → (l8 = l1 → zgo w (d + 1) 200 51 [zR 81, zI l1, zJ, zI l3, zI l4, zL l5, zJ, zI l7, zI (w32 (l8 + 1))] [] H (zQI K)) ∧ (¬ l8 = l1 → zclL w d 182 [zR 81, zI l8] H (fun x7 H6 => ((w64 (x7 * l1)) = (w64 (l5 * l8)) → (¬ l7 = l4 → zgo w (d + 1) 200 51 [zR 81, zI l1, zJ, zI l3, zI l4, zL l5, zJ, zI (w32 (l7 + 1)), zI (w32 (l8 + 1))] [] H6 (zQI K)) ∧ (l7 = l4 → K l8 H6)) ∧ (¬ (w64 (x7 * l1)) = (w64 (l5 * l8)) → zgo w (d + 1) 200 51 [zR 81, zI l1, zJ, zI l3, zI l4, zL l5, zJ, zI l7, zI (w32 (l8 + 1))] [] H6 (zQI K)))))) :
    zgo w (d + 1) 200 51 [zR 81, zI l1, zJ, zI l3, zI l4, zL l5, zJ, zI l7, zI l8] [] H (zQI K) := by
  refine g_il zp200 rfl rfl rfl ?_
  refine g_il zp200 rfl rfl rfl ?_
  refine g_icmp zp200 rfl rfl zc4 (fun c1 => ?_) (fun c1 => ?_)
  · replace h := h.1 c1
    refine g_il zp200 rfl rfl rfl ?_
    refine g_ic zp200 rfl rfl ?_
    refine g_icmp zp200 rfl rfl zc1 (fun c2 => ?_) (fun c2 => ?_)
    · replace h := h.1 c2
      refine g_al zp200 rfl rfl rfl (by decide) ?_
      refine g_ic zp200 rfl rfl ?_
      refine g_callI (as := [zR 81, zI 5]) (rest := []) zp200 rfl rfl (Nat.succ_pos _) rfl rfl (Nat.le_of_ble_eq_true rfl) (Nat.le_of_ble_eq_true rfl) rfl rfl h (fun x4 H3 h => ?_)
      exact g_ret zp200 rfl rfl ⟨_, rfl, h⟩
    · replace h := h.2 c2
      refine g_il zp200 rfl rfl rfl ?_
      refine g_goto zp200 rfl ?_
      exact g_ret zp200 rfl rfl ⟨_, rfl, h⟩
  · replace h := h.2 c1
    refine g_il zp200 rfl rfl rfl ?_
    refine g_il zp200 rfl rfl rfl ?_
    refine g_icmp zp200 rfl rfl zc0 (fun c5 => ?_) (fun c5 => ?_)
    · replace h := h.1 c5
      refine g_inc (ls' := [zR 81, zI l1, zJ, zI l3, zI l4, zL l5, zJ, zI l7, zI (w32 (l8 + 1))]) zp200 rfl rfl rfl rfl ?_
      refine g_goto zp200 rfl ?_
      exact g_weak (ls' := [zR 81, zI l1, zJ, zI l3, zI l4, zL l5, zJ, zI l7, zI (w32 (l8 + 1))]) ⟨Or.inr rfl, Or.inr rfl, Or.inr rfl, Or.inr rfl, Or.inr rfl, Or.inr rfl, Or.inr rfl, Or.inr rfl, Or.inr rfl, trivial⟩ h
    · replace h := h.2 c5
      refine g_al zp200 rfl rfl rfl (by decide) ?_
      refine g_il zp200 rfl rfl rfl ?_
      refine g_callL (as := [zR 81, zI l8]) (rest := []) zp200 rfl rfl (Nat.succ_pos _) rfl rfl (Nat.le_of_ble_eq_true rfl) (Nat.le_of_ble_eq_true rfl) rfl rfl h (fun x7 H6 h => ?_)
      refine g_il zp200 rfl rfl rfl ?_
      refine g_i2l zp200 rfl rfl ?_
      refine g_lar (r := w64 (x7 * l1)) zp200 rfl rfl rfl ?_
      refine g_ll zp200 rfl rfl rfl ?_
      refine g_il zp200 rfl rfl rfl ?_
      refine g_i2l zp200 rfl rfl ?_
      refine g_lar (r := w64 (l5 * l8)) zp200 rfl rfl rfl ?_
      refine g_lcmp zp200 rfl rfl rfl rfl zc0 (fun c8 => ?_) (fun c8 => ?_)
      · replace h := h.1 c8
        refine g_il zp200 rfl rfl rfl ?_
        refine g_il zp200 rfl rfl rfl ?_
        refine g_icmp zp200 rfl rfl zc1 (fun c9 => ?_) (fun c9 => ?_)
        · replace h := h.1 c9
          refine g_inc (ls' := [zR 81, zI l1, zJ, zI l3, zI l4, zL l5, zJ, zI (w32 (l7 + 1)), zI l8]) zp200 rfl rfl rfl rfl ?_
          refine g_inc (ls' := [zR 81, zI l1, zJ, zI l3, zI l4, zL l5, zJ, zI (w32 (l7 + 1)), zI (w32 (l8 + 1))]) zp200 rfl rfl rfl rfl ?_
          refine g_goto zp200 rfl ?_
          exact g_weak (ls' := [zR 81, zI l1, zJ, zI l3, zI l4, zL l5, zJ, zI (w32 (l7 + 1)), zI (w32 (l8 + 1))]) ⟨Or.inr rfl, Or.inr rfl, Or.inr rfl, Or.inr rfl, Or.inr rfl, Or.inr rfl, Or.inr rfl, Or.inr rfl, Or.inr rfl, trivial⟩ h
        · replace h := h.2 c9
          refine g_il zp200 rfl rfl rfl ?_
          exact g_ret zp200 rfl rfl ⟨_, rfl, h⟩
      · replace h := h.2 c8
        refine g_goto zp200 rfl ?_
        refine g_inc (ls' := [zR 81, zI l1, zJ, zI l3, zI l4, zL l5, zJ, zI l7, zI (w32 (l8 + 1))]) zp200 rfl rfl rfl rfl ?_
        refine g_goto zp200 rfl ?_
        exact g_weak (ls' := [zR 81, zI l1, zJ, zI l3, zI l4, zL l5, zJ, zI l7, zI (w32 (l8 + 1))]) ⟨Or.inr rfl, Or.inr rfl, Or.inr rfl, Or.inr rfl, Or.inr rfl, Or.inr rfl, Or.inr rfl, Or.inr rfl, Or.inr rfl, trivial⟩ h
theorem zp201 : zprog.getD 201 [] = zk201 := rfl
theorem x201_0 {w : zWt} {d : Nat} {H : zHt} {K : Int → zHt → Prop} {l0 : Int} {l1 : Int} {l2 : Int}
    (h : zclI w d 176 [zI l0] H (fun x2 H1 => (x2 = 0 → K 0 H1) ∧ (¬ x2 = 0 → zclI w d 176 [zI l1] H1 (fun x5 H4 => (x5 = 0 → K 0 H4) ∧ (¬ x5 = 0 → zclI w d 173 [zL (w32 (l1 - l0)), zL 0, zL l2] H4 (fun x8 H7 => (x8 = 0 → K 0 H7) ∧ (¬ x8 = 0 → K 1 H7))))))) :
    zclI w (d + 1) 201 [zI l0, zI l1, zI l2] H K := by
  show zgo w (d + 1) 201 0 [zI l0, zI l1, zI l2] [] H (zQI K)
  refine g_il zp201 rfl rfl rfl ?_
  refine g_callI (as := [zI l0]) (rest := []) zp201 rfl rfl (Nat.succ_pos _) rfl rfl (Nat.le_of_ble_eq_true rfl) (Nat.le_of_ble_eq_true rfl) rfl rfl h (fun x2 H1 h => ?_)
  refine g_if zp201 rfl rfl zc0 (fun c3 => ?_) (fun c3 => ?_)
  · replace h := h.1 c3
    refine g_ic zp201 rfl rfl ?_
    exact g_ret zp201 rfl (zret_b (by decide)) ⟨_, rfl, h⟩
  · replace h := h.2 c3
    refine g_il zp201 rfl rfl rfl ?_
    refine g_callI (as := [zI l1]) (rest := []) zp201 rfl rfl (Nat.succ_pos _) rfl rfl (Nat.le_of_ble_eq_true rfl) (Nat.le_of_ble_eq_true rfl) rfl rfl h (fun x5 H4 h => ?_)
    refine g_if zp201 rfl rfl zc0 (fun c6 => ?_) (fun c6 => ?_)
    · replace h := h.1 c6
      refine g_ic zp201 rfl rfl ?_
      exact g_ret zp201 rfl (zret_b (by decide)) ⟨_, rfl, h⟩
    · replace h := h.2 c6
      refine g_il zp201 rfl rfl rfl ?_
      refine g_il zp201 rfl rfl rfl ?_
      refine g_ar (r := w32 (l1 - l0)) zp201 rfl rfl rfl ?_
      refine g_i2l zp201 rfl rfl ?_
      refine g_lc zp201 rfl rfl ?_
      refine g_il zp201 rfl rfl rfl ?_
      refine g_i2l zp201 rfl rfl ?_
      refine g_callI (as := [zL (w32 (l1 - l0)), zL 0, zL l2]) (rest := []) zp201 rfl rfl (Nat.succ_pos _) rfl rfl (Nat.le_of_ble_eq_true rfl) (Nat.le_of_ble_eq_true rfl) rfl rfl h (fun x8 H7 h => ?_)
      refine g_if zp201 rfl rfl zc0 (fun c9 => ?_) (fun c9 => ?_)
      · replace h := h.1 c9
        refine g_ic zp201 rfl rfl ?_
        exact g_ret zp201 rfl (zret_b (by decide)) ⟨_, rfl, h⟩
      · replace h := h.2 c9
        refine g_ic zp201 rfl rfl ?_
        refine g_goto zp201 rfl ?_
        exact g_ret zp201 rfl (zret_b (by decide)) ⟨_, rfl, h⟩
theorem zp202 : zprog.getD 202 [] = zk202 := rfl
theorem x202_0 {w : zWt} {d : Nat} {H : zHt} {K : Int → zHt → Prop} {l1 : Int} {l2 : Int} {l3 : Int}
    (h : zclI w d 201 [zI l1, zI l2, zI 200] H (fun x2 H1 => (x2 = 0 → zclI w d 174 [zR 81, zI 1] H1 (fun x5 H4 => (¬ x5 = 0 → zgo w (d + 1) 202 40 [zR 81, zI l1, zI l2, zI l3, zI l1, zJ, zJ, zJ, zJ, zJ, zJ] [] H4 (zQI K)) ∧ (x5 = 0 → K (-1) H4))) ∧ (¬ x2 = 0 → zclI w d 173 [zL l3, zL 0, zL 2] H1 (fun x8 H7 => (x8 = 0 → zclI w d 174 [zR 81, zI 1] H7 (fun x11 H10 => (¬ x11 = 0 → zgo w (d + 1) 202 40 [zR 81, zI l1, zI l2, zI l3, zI l1, zJ, zJ, zJ, zJ, zJ, zJ] [] H10 (zQI K)) ∧ (x11 = 0 → K (-1) H10))) ∧ (¬ x8 = 0 → zclI w d 174 [zR 81, zI 0] H7 (fun x14 H13 => (¬ x14 = 0 → zgo w (d + 1) 202 40 [zR 81, zI l1, zI l2, zI l3, zI l1, zJ, zJ, zJ, zJ, zJ, zJ] [] H13 (zQI K)) ∧ (x14 = 0 → K (-1) H13))))))) :
    zclI w (d + 1) 202 [zR 81, zI l1, zI l2, zI l3] H K := by
  show zgo w (d + 1) 202 0 [zR 81, zI l1, zI l2, zI l3, zJ, zJ, zJ, zJ, zJ, zJ, zJ] [] H (zQI K)
  refine g_al zp202 rfl rfl rfl (by decide) ?_
  refine g_il zp202 rfl rfl rfl ?_
  refine g_il zp202 rfl rfl rfl ?_
  refine g_ic zp202 rfl rfl ?_
  refine g_callI (as := [zI l1, zI l2, zI 200]) (rest := [zR 81]) zp202 rfl rfl (Nat.succ_pos _) rfl rfl (Nat.le_of_ble_eq_true rfl) (Nat.le_of_ble_eq_true rfl) rfl rfl h (fun x2 H1 h => ?_)
  refine g_if zp202 rfl rfl zc0 (fun c3 => ?_) (fun c3 => ?_)
  · replace h := h.1 c3
    refine g_ic zp202 rfl rfl ?_
    refine g_callI (as := [zR 81, zI 1]) (rest := []) zp202 rfl rfl (Nat.succ_pos _) rfl rfl (Nat.le_of_ble_eq_true rfl) (Nat.le_of_ble_eq_true rfl) rfl rfl h (fun x5 H4 h => ?_)
    refine g_if zp202 rfl rfl zc1 (fun c6 => ?_) (fun c6 => ?_)
    · replace h := h.1 c6
      refine g_il zp202 rfl rfl rfl ?_
      refine g_is (ls' := [zR 81, zI l1, zI l2, zI l3, zI l1, zJ, zJ, zJ, zJ, zJ, zJ]) zp202 rfl rfl (Nat.le_of_ble_eq_true rfl) rfl ?_
      exact g_weak (ls' := [zR 81, zI l1, zI l2, zI l3, zI l1, zJ, zJ, zJ, zJ, zJ, zJ]) ⟨Or.inr rfl, Or.inr rfl, Or.inr rfl, Or.inr rfl, Or.inr rfl, Or.inr rfl, Or.inr rfl, Or.inr rfl, Or.inr rfl, Or.inr rfl, Or.inr rfl, trivial⟩ h
    · replace h := h.2 c6
      refine g_ic zp202 rfl rfl ?_
      exact g_ret zp202 rfl rfl ⟨_, rfl, h⟩
  · replace h := h.2 c3
    refine g_il zp202 rfl rfl rfl ?_
    refine g_i2l zp202 rfl rfl ?_
    refine g_lc zp202 rfl rfl ?_
    refine g_lc zp202 rfl rfl ?_
    refine g_callI (as := [zL l3, zL 0, zL 2]) (rest := [zR 81]) zp202 rfl rfl (Nat.succ_pos _) rfl rfl (Nat.le_of_ble_eq_true rfl) (Nat.le_of_ble_eq_true rfl) rfl rfl h (fun x8 H7 h => ?_)
    refine g_if zp202 rfl rfl zc0 (fun c9 => ?_) (fun c9 => ?_)
    · replace h := h.1 c9
      refine g_ic zp202 rfl rfl ?_
      refine g_callI (as := [zR 81, zI 1]) (rest := []) zp202 rfl rfl (Nat.succ_pos _) rfl rfl (Nat.le_of_ble_eq_true rfl) (Nat.le_of_ble_eq_true rfl) rfl rfl h (fun x11 H10 h => ?_)
      refine g_if zp202 rfl rfl zc1 (fun c12 => ?_) (fun c12 => ?_)
      · replace h := h.1 c12
        refine g_il zp202 rfl rfl rfl ?_
        refine g_is (ls' := [zR 81, zI l1, zI l2, zI l3, zI l1, zJ, zJ, zJ, zJ, zJ, zJ]) zp202 rfl rfl (Nat.le_of_ble_eq_true rfl) rfl ?_
        exact g_weak (ls' := [zR 81, zI l1, zI l2, zI l3, zI l1, zJ, zJ, zJ, zJ, zJ, zJ]) ⟨Or.inr rfl, Or.inr rfl, Or.inr rfl, Or.inr rfl, Or.inr rfl, Or.inr rfl, Or.inr rfl, Or.inr rfl, Or.inr rfl, Or.inr rfl, Or.inr rfl, trivial⟩ h
      · replace h := h.2 c12
        refine g_ic zp202 rfl rfl ?_
        exact g_ret zp202 rfl rfl ⟨_, rfl, h⟩
    · replace h := h.2 c9
      refine g_ic zp202 rfl rfl ?_
      refine g_goto zp202 rfl ?_
      refine g_callI (as := [zR 81, zI 0]) (rest := []) zp202 rfl rfl (Nat.succ_pos _) rfl rfl (Nat.le_of_ble_eq_true rfl) (Nat.le_of_ble_eq_true rfl) rfl rfl h (fun x14 H13 h => ?_)
      refine g_if zp202 rfl rfl zc1 (fun c15 => ?_) (fun c15 => ?_)
      · replace h := h.1 c15
        refine g_il zp202 rfl rfl rfl ?_
        refine g_is (ls' := [zR 81, zI l1, zI l2, zI l3, zI l1, zJ, zJ, zJ, zJ, zJ, zJ]) zp202 rfl rfl (Nat.le_of_ble_eq_true rfl) rfl ?_
        exact g_weak (ls' := [zR 81, zI l1, zI l2, zI l3, zI l1, zJ, zJ, zJ, zJ, zJ, zJ]) ⟨Or.inr rfl, Or.inr rfl, Or.inr rfl, Or.inr rfl, Or.inr rfl, Or.inr rfl, Or.inr rfl, Or.inr rfl, Or.inr rfl, Or.inr rfl, Or.inr rfl, trivial⟩ h
      · replace h := h.2 c15
        refine g_ic zp202 rfl rfl ?_
        exact g_ret zp202 rfl rfl ⟨_, rfl, h⟩
theorem x202_40 {w : zWt} {d : Nat} {H : zHt} {K : Int → zHt → Prop} {l1 : Int} {l2 : Int} {l3 : Int} {l4 : Int}
    (h : (l2 < l4 → zgo w (d + 1) 202 82 [zR 81, zI l1, zI l2, zI l3, zI 0, zI 0, zI (-1), zI 0, zI l1, zJ, zJ] [] H (zQI K)) ∧ (l4 ≤ l2 → zclL w d 182 [zR 81, zI l4] H (fun x3 H2 => (0 ≤ (w32 (l4 - l1)) ∧ (w32 (l4 - l1)) < 201) ∧ zgo w (d + 1) 202 40 [zR 81, zI l1, zI l2, zI l3, zI (w32 (l4 + 1)), zJ, zJ, zJ, zJ, zJ, zJ] [] (zup H2 89 (w32 (l4 - l1)) x3) (zQI K)))) :
    zgo w (d + 1) 202 40 [zR 81, zI l1, zI l2, zI l3, zI l4, zJ, zJ, zJ, zJ, zJ, zJ] [] H (zQI K) := by
  refine g_il zp202 rfl rfl rfl ?_
  refine g_il zp202 rfl rfl rfl ?_
  refine g_icmp zp202 rfl rfl zc4 (fun c1 => ?_) (fun c1 => ?_)
  · replace h := h.1 c1
    refine g_ic zp202 rfl rfl ?_
    refine g_is (ls' := [zR 81, zI l1, zI l2, zI l3, zI 0, zJ, zJ, zJ, zJ, zJ, zJ]) zp202 rfl rfl (Nat.le_of_ble_eq_true rfl) rfl ?_
    refine g_ic zp202 rfl rfl ?_
    refine g_is (ls' := [zR 81, zI l1, zI l2, zI l3, zI 0, zI 0, zJ, zJ, zJ, zJ, zJ]) zp202 rfl rfl (Nat.le_of_ble_eq_true rfl) rfl ?_
    refine g_ic zp202 rfl rfl ?_
    refine g_is (ls' := [zR 81, zI l1, zI l2, zI l3, zI 0, zI 0, zI (-1), zJ, zJ, zJ, zJ]) zp202 rfl rfl (Nat.le_of_ble_eq_true rfl) rfl ?_
    refine g_ic zp202 rfl rfl ?_
    refine g_is (ls' := [zR 81, zI l1, zI l2, zI l3, zI 0, zI 0, zI (-1), zI 0, zJ, zJ, zJ]) zp202 rfl rfl (Nat.le_of_ble_eq_true rfl) rfl ?_
    refine g_il zp202 rfl rfl rfl ?_
    refine g_is (ls' := [zR 81, zI l1, zI l2, zI l3, zI 0, zI 0, zI (-1), zI 0, zI l1, zJ, zJ]) zp202 rfl rfl (Nat.le_of_ble_eq_true rfl) rfl ?_
    exact g_weak (ls' := [zR 81, zI l1, zI l2, zI l3, zI 0, zI 0, zI (-1), zI 0, zI l1, zJ, zJ]) ⟨Or.inr rfl, Or.inr rfl, Or.inr rfl, Or.inr rfl, Or.inr rfl, Or.inr rfl, Or.inr rfl, Or.inr rfl, Or.inr rfl, Or.inr rfl, Or.inr rfl, trivial⟩ h
  · replace h := h.2 c1
    refine g_al zp202 rfl rfl rfl (by decide) ?_
    refine g_get (v := zR 89) zp202 rfl rfl rfl ⟨rfl, by decide, (by decide)⟩ rfl ?_
    refine g_il zp202 rfl rfl rfl ?_
    refine g_il zp202 rfl rfl rfl ?_
    refine g_ar (r := w32 (l4 - l1)) zp202 rfl rfl rfl ?_
    refine g_al zp202 rfl rfl rfl (by decide) ?_
    refine g_il zp202 rfl rfl rfl ?_
    refine g_callL (as := [zR 81, zI l4]) (rest := [zI (w32 (l4 - l1)), zR 89]) zp202 rfl rfl (Nat.succ_pos _) rfl rfl (Nat.le_of_ble_eq_true rfl) (Nat.le_of_ble_eq_true rfl) rfl rfl h (fun x3 H2 h => ?_)
    obtain ⟨c4, h⟩ := h
    refine g_last zp202 rfl rfl rfl (by decide) rfl c4 ?_
    refine g_inc (ls' := [zR 81, zI l1, zI l2, zI l3, zI (w32 (l4 + 1)), zJ, zJ, zJ, zJ, zJ, zJ]) zp202 rfl rfl rfl rfl ?_
    refine g_goto zp202 rfl ?_
    exact g_weak (ls' := [zR 81, zI l1, zI l2, zI l3, zI (w32 (l4 + 1)), zJ, zJ, zJ, zJ, zJ, zJ]) ⟨Or.inr rfl, Or.inr rfl, Or.inr rfl, Or.inr rfl, Or.inr rfl, Or.inr rfl, Or.inr rfl, Or.inr rfl, Or.inr rfl, Or.inr rfl, Or.inr rfl, trivial⟩ h
theorem x202_82 {w : zWt} {d : Nat} {H : zHt} {K : Int → zHt → Prop} {l1 : Int} {l2 : Int} {l3 : Int} {l4 : Int} {l5 : Int} {l6 : Int} {l7 : Int} {l8 : Int}
    (h : (l2 < l8 → (¬ l3 = 0 → (¬ l3 = 1 → (0 ≤ l6 → K l6 H) ∧ (l6 < 0 → zclI w d 178 [zR 81, zI 5] H (fun x6 H5 => K x6 H5))) ∧ (l3 = 1 → K l5 H)) ∧ (l3 = 0 → K l4 H)) ∧ (l8 ≤ l2 → zclI w d 203 [zR 81, zI l8, zI l1, zI l1, zI (w32 (l8 - 1))] H (fun x8 H7 => zclI w d 203 [zR 81, zI l8, zI l1, zI (w32 (l8 + 1)), zI l2] H7 (fun x10 H9 => (¬ x8 = 0 → zgo w (d + 1) 202 131 [zR 81, zI l1, zI l2, zI l3, zJ, zI l5, zI l6, zI l7, zI l8, zJ, zI (w32 (x8 + x10))] [zI 0, zI l4] H9 (zQI K)) ∧ (x8 = 0 → zgo w (d + 1) 202 131 [zR 81, zI l1, zI l2, zI l3, zJ, zI l5, zI l6, zI l7, zI l8, zJ, zI (w32 (x8 + x10))] [zI 1, zI l4] H9 (zQI K)))))) :
    zgo w (d + 1) 202 82 [zR 81, zI l1, zI l2, zI l3, zI l4, zI l5, zI l6, zI l7, zI l8, zJ, zJ] [] H (zQI K) := by
  refine g_il zp202 rfl rfl rfl ?_
  refine g_il zp202 rfl rfl rfl ?_
  refine g_icmp zp202 rfl rfl zc4 (fun c1 => ?_) (fun c1 => ?_)
  · replace h := h.1 c1
    refine g_il zp202 rfl rfl rfl ?_
    refine g_if zp202 rfl rfl zc1 (fun c2 => ?_) (fun c2 => ?_)
    · replace h := h.1 c2
      refine g_il zp202 rfl rfl rfl ?_
      refine g_ic zp202 rfl rfl ?_
      refine g_icmp zp202 rfl rfl zc1 (fun c3 => ?_) (fun c3 => ?_)
      · replace h := h.1 c3
        refine g_il zp202 rfl rfl rfl ?_
        refine g_if zp202 rfl rfl zc3 (fun c4 => ?_) (fun c4 => ?_)
        · replace h := h.1 c4
          refine g_il zp202 rfl rfl rfl ?_
          exact g_ret zp202 rfl rfl ⟨_, rfl, h⟩
        · replace h := h.2 c4
          refine g_al zp202 rfl rfl rfl (by decide) ?_
          refine g_ic zp202 rfl rfl ?_
          refine g_callI (as := [zR 81, zI 5]) (rest := []) zp202 rfl rfl (Nat.succ_pos _) rfl rfl (Nat.le_of_ble_eq_true rfl) (Nat.le_of_ble_eq_true rfl) rfl rfl h (fun x6 H5 h => ?_)
          refine g_goto zp202 rfl ?_
          exact g_ret zp202 rfl rfl ⟨_, rfl, h⟩
      · replace h := h.2 c3
        refine g_il zp202 rfl rfl rfl ?_
        refine g_goto zp202 rfl ?_
        exact g_ret zp202 rfl rfl ⟨_, rfl, h⟩
    · replace h := h.2 c2
      refine g_il zp202 rfl rfl rfl ?_
      refine g_goto zp202 rfl ?_
      exact g_ret zp202 rfl rfl ⟨_, rfl, h⟩
  · replace h := h.2 c1
    refine g_al zp202 rfl rfl rfl (by decide) ?_
    refine g_il zp202 rfl rfl rfl ?_
    refine g_il zp202 rfl rfl rfl ?_
    refine g_il zp202 rfl rfl rfl ?_
    refine g_il zp202 rfl rfl rfl ?_
    refine g_ic zp202 rfl rfl ?_
    refine g_ar (r := w32 (l8 - 1)) zp202 rfl rfl rfl ?_
    refine g_callI (as := [zR 81, zI l8, zI l1, zI l1, zI (w32 (l8 - 1))]) (rest := []) zp202 rfl rfl (Nat.succ_pos _) rfl rfl (Nat.le_of_ble_eq_true rfl) (Nat.le_of_ble_eq_true rfl) rfl rfl h (fun x8 H7 h => ?_)
    refine g_is (ls' := [zR 81, zI l1, zI l2, zI l3, zI l4, zI l5, zI l6, zI l7, zI l8, zI x8, zJ]) zp202 rfl rfl (Nat.le_of_ble_eq_true rfl) rfl ?_
    refine g_il zp202 rfl rfl rfl ?_
    refine g_al zp202 rfl rfl rfl (by decide) ?_
    refine g_il zp202 rfl rfl rfl ?_
    refine g_il zp202 rfl rfl rfl ?_
    refine g_il zp202 rfl rfl rfl ?_
    refine g_ic zp202 rfl rfl ?_
    refine g_ar (r := w32 (l8 + 1)) zp202 rfl rfl rfl ?_
    refine g_il zp202 rfl rfl rfl ?_
    refine g_callI (as := [zR 81, zI l8, zI l1, zI (w32 (l8 + 1)), zI l2]) (rest := [zI x8]) zp202 rfl rfl (Nat.succ_pos _) rfl rfl (Nat.le_of_ble_eq_true rfl) (Nat.le_of_ble_eq_true rfl) rfl rfl h (fun x10 H9 h => ?_)
    refine g_ar (r := w32 (x8 + x10)) zp202 rfl rfl rfl ?_
    refine g_is (ls' := [zR 81, zI l1, zI l2, zI l3, zI l4, zI l5, zI l6, zI l7, zI l8, zI x8, zI (w32 (x8 + x10))]) zp202 rfl rfl (Nat.le_of_ble_eq_true rfl) rfl ?_
    refine g_il zp202 rfl rfl rfl ?_
    refine g_il zp202 rfl rfl rfl ?_
    refine g_if zp202 rfl rfl zc1 (fun c11 => ?_) (fun c11 => ?_)
    · replace h := h.1 c11
      refine g_ic zp202 rfl rfl ?_
      exact g_weak (ls' := [zR 81, zI l1, zI l2, zI l3, zJ, zI l5, zI l6, zI l7, zI l8, zJ, zI (w32 (x8 + x10))]) ⟨Or.inr rfl, Or.inr rfl, Or.inr rfl, Or.inr rfl, Or.inl rfl, Or.inr rfl, Or.inr rfl, Or.inr rfl, Or.inr rfl, Or.inl rfl, Or.inr rfl, trivial⟩ h
    · replace h := h.2 c11
      refine g_ic zp202 rfl rfl ?_
      refine g_goto zp202 rfl ?_
      exact g_weak (ls' := [zR 81, zI l1, zI l2, zI l3, zJ, zI l5, zI l6, zI l7, zI l8, zJ, zI (w32 (x8 + x10))]) ⟨Or.inr rfl, Or.inr rfl, Or.inr rfl, Or.inr rfl, Or.inl rfl, Or.inr rfl, Or.inr rfl, Or.inr rfl, Or.inr rfl, Or.inl rfl, Or.inr rfl, trivial⟩ h
theorem x202_131 {w : zWt} {d : Nat} {H : zHt} {K : Int → zHt → Prop} {l1 : Int} {l2 : Int} {l3 : Int} {l5 : Int} {l6 : Int} {l7 : Int} {l8 : Int} {l10 : Int} {s0 : Int} {s1 : Int}
    (h : (l10 ≤ 0 → (l7 < l10 → zgo w (d + 1) 202 82 [zR 81, zI l1, zI l2, zI l3, zI (w32 (s0 + s1)), zI (w32 (l5 + 0)), zI l8, zI l10, zI (w32 (l8 + 1)), zJ, zJ] [] H (zQI K)) ∧ (l10 ≤ l7 → zgo w (d + 1) 202 82 [zR 81, zI l1, zI l2, zI l3, zI (w32 (s0 + s1)), zI (w32 (l5 + 0)), zI l6, zI l7, zI (w32 (l8 + 1)), zJ, zJ] [] H (zQI K))) ∧ (0 < l10 → (l7 < l10 → zgo w (d + 1) 202 82 [zR 81, zI l1, zI l2, zI l3, zI (w32 (s0 + s1)), zI (w32 (l5 + 1)), zI l8, zI l10, zI (w32 (l8 + 1)), zJ, zJ] [] H (zQI K)) ∧ (l10 ≤ l7 → zgo w (d + 1) 202 82 [zR 81, zI l1, zI l2, zI l3, zI (w32 (s0 + s1)), zI (w32 (l5 + 1)), zI l6, zI l7, zI (w32 (l8 + 1)), zJ, zJ] [] H (zQI K)))) :
    zgo w (d + 1) 202 131 [zR 81, zI l1, zI l2, zI l3, zJ, zI l5, zI l6, zI l7, zI l8, zJ, zI l10] [zI s1, zI s0] H (zQI K) := by
  refine g_ar (r := w32 (s0 + s1)) zp202 rfl rfl rfl ?_
  refine g_is (ls' := [zR 81, zI l1, zI l2, zI l3, zI (w32 (s0 + s1)), zI l5, zI l6, zI l7, zI l8, zJ, zI l10]) zp202 rfl rfl (Nat.le_of_ble_eq_true rfl) rfl ?_
  refine g_il zp202 rfl rfl rfl ?_
  refine g_il zp202 rfl rfl rfl ?_
  refine g_if zp202 rfl rfl zc5 (fun c1 => ?_) (fun c1 => ?_)
  · replace h := h.1 c1
    refine g_ic zp202 rfl rfl ?_
    refine g_ar (r := w32 (l5 + 0)) zp202 rfl rfl rfl ?_
    refine g_is (ls' := [zR 81, zI l1, zI l2, zI l3, zI (w32 (s0 + s1)), zI (w32 (l5 + 0)), zI l6, zI l7, zI l8, zJ, zI l10]) zp202 rfl rfl (Nat.le_of_ble_eq_true rfl) rfl ?_
    refine g_il zp202 rfl rfl rfl ?_
    refine g_il zp202 rfl rfl rfl ?_
    refine g_icmp zp202 rfl rfl zc4 (fun c2 => ?_) (fun c2 => ?_)
    · replace h := h.1 c2
      refine g_il zp202 rfl rfl rfl ?_
      refine g_is (ls' := [zR 81, zI l1, zI l2, zI l3, zI (w32 (s0 + s1)), zI (w32 (l5 + 0)), zI l6, zI l10, zI l8, zJ, zI l10]) zp202 rfl rfl (Nat.le_of_ble_eq_true rfl) rfl ?_
      refine g_il zp202 rfl rfl rfl ?_
      refine g_is (ls' := [zR 81, zI l1, zI l2, zI l3, zI (w32 (s0 + s1)), zI (w32 (l5 + 0)), zI l8, zI l10, zI l8, zJ, zI l10]) zp202 rfl rfl (Nat.le_of_ble_eq_true rfl) rfl ?_
      refine g_inc (ls' := [zR 81, zI l1, zI l2, zI l3, zI (w32 (s0 + s1)), zI (w32 (l5 + 0)), zI l8, zI l10, zI (w32 (l8 + 1)), zJ, zI l10]) zp202 rfl rfl rfl rfl ?_
      refine g_goto zp202 rfl ?_
      exact g_weak (ls' := [zR 81, zI l1, zI l2, zI l3, zI (w32 (s0 + s1)), zI (w32 (l5 + 0)), zI l8, zI l10, zI (w32 (l8 + 1)), zJ, zJ]) ⟨Or.inr rfl, Or.inr rfl, Or.inr rfl, Or.inr rfl, Or.inr rfl, Or.inr rfl, Or.inr rfl, Or.inr rfl, Or.inr rfl, Or.inr rfl, Or.inl rfl, trivial⟩ h
    · replace h := h.2 c2
      refine g_goto zp202 rfl ?_
      refine g_inc (ls' := [zR 81, zI l1, zI l2, zI l3, zI (w32 (s0 + s1)), zI (w32 (l5 + 0)), zI l6, zI l7, zI (w32 (l8 + 1)), zJ, zI l10]) zp202 rfl rfl rfl rfl ?_
      refine g_goto zp202 rfl ?_
      exact g_weak (ls' := [zR 81, zI l1, zI l2, zI l3, zI (w32 (s0 + s1)), zI (w32 (l5 + 0)), zI l6, zI l7, zI (w32 (l8 + 1)), zJ, zJ]) ⟨Or.inr rfl, Or.inr rfl, Or.inr rfl, Or.inr rfl, Or.inr rfl, Or.inr rfl, Or.inr rfl, Or.inr rfl, Or.inr rfl, Or.inr rfl, Or.inl rfl, trivial⟩ h
  · replace h := h.2 c1
    refine g_ic zp202 rfl rfl ?_
    refine g_goto zp202 rfl ?_
    refine g_ar (r := w32 (l5 + 1)) zp202 rfl rfl rfl ?_
    refine g_is (ls' := [zR 81, zI l1, zI l2, zI l3, zI (w32 (s0 + s1)), zI (w32 (l5 + 1)), zI l6, zI l7, zI l8, zJ, zI l10]) zp202 rfl rfl (Nat.le_of_ble_eq_true rfl) rfl ?_
    refine g_il zp202 rfl rfl rfl ?_
    refine g_il zp202 rfl rfl rfl ?_
    refine g_icmp zp202 rfl rfl zc4 (fun c3 => ?_) (fun c3 => ?_)
    · replace h := h.1 c3
      refine g_il zp202 rfl rfl rfl ?_
      refine g_is (ls' := [zR 81, zI l1, zI l2, zI l3, zI (w32 (s0 + s1)), zI (w32 (l5 + 1)), zI l6, zI l10, zI l8, zJ, zI l10]) zp202 rfl rfl (Nat.le_of_ble_eq_true rfl) rfl ?_
      refine g_il zp202 rfl rfl rfl ?_
      refine g_is (ls' := [zR 81, zI l1, zI l2, zI l3, zI (w32 (s0 + s1)), zI (w32 (l5 + 1)), zI l8, zI l10, zI l8, zJ, zI l10]) zp202 rfl rfl (Nat.le_of_ble_eq_true rfl) rfl ?_
      refine g_inc (ls' := [zR 81, zI l1, zI l2, zI l3, zI (w32 (s0 + s1)), zI (w32 (l5 + 1)), zI l8, zI l10, zI (w32 (l8 + 1)), zJ, zI l10]) zp202 rfl rfl rfl rfl ?_
      refine g_goto zp202 rfl ?_
      exact g_weak (ls' := [zR 81, zI l1, zI l2, zI l3, zI (w32 (s0 + s1)), zI (w32 (l5 + 1)), zI l8, zI l10, zI (w32 (l8 + 1)), zJ, zJ]) ⟨Or.inr rfl, Or.inr rfl, Or.inr rfl, Or.inr rfl, Or.inr rfl, Or.inr rfl, Or.inr rfl, Or.inr rfl, Or.inr rfl, Or.inr rfl, Or.inl rfl, trivial⟩ h
    · replace h := h.2 c3
      refine g_goto zp202 rfl ?_
      refine g_inc (ls' := [zR 81, zI l1, zI l2, zI l3, zI (w32 (s0 + s1)), zI (w32 (l5 + 1)), zI l6, zI l7, zI (w32 (l8 + 1)), zJ, zI l10]) zp202 rfl rfl rfl rfl ?_
      refine g_goto zp202 rfl ?_
      exact g_weak (ls' := [zR 81, zI l1, zI l2, zI l3, zI (w32 (s0 + s1)), zI (w32 (l5 + 1)), zI l6, zI l7, zI (w32 (l8 + 1)), zJ, zJ]) ⟨Or.inr rfl, Or.inr rfl, Or.inr rfl, Or.inr rfl, Or.inr rfl, Or.inr rfl, Or.inr rfl, Or.inr rfl, Or.inr rfl, Or.inr rfl, Or.inl rfl, trivial⟩ h
theorem zp203 : zprog.getD 203 [] = zk203 := rfl
theorem x203_0 {w : zWt} {d : Nat} {H : zHt} {K : Int → zHt → Prop} {l1 : Int} {l2 : Int} {l3 : Int} {l4 : Int}
    (h : zgo w d 203 6 [zR 81, zI l1, zI l2, zJ, zI l4, zI 0, zI l3] [] H (zQI K)) :
    zclI w d 203 [zR 81, zI l1, zI l2, zI l3, zI l4] H K := by
  show zgo w d 203 0 [zR 81, zI l1, zI l2, zI l3, zI l4, zJ, zJ] [] H (zQI K)
  refine g_ic zp203 rfl rfl ?_
  refine g_is (ls' := [zR 81, zI l1, zI l2, zI l3, zI l4, zI 0, zJ]) zp203 rfl rfl (Nat.le_of_ble_eq_true rfl) rfl ?_
  refine g_il zp203 rfl rfl rfl ?_
  refine g_is (ls' := [zR 81, zI l1, zI l2, zI l3, zI l4, zI 0, zI l3]) zp203 rfl rfl (Nat.le_of_ble_eq_true rfl) rfl ?_
  exact g_weak (ls' := [zR 81, zI l1, zI l2, zJ, zI l4, zI 0, zI l3]) ⟨Or.inr rfl, Or.inr rfl, Or.inr rfl, Or.inl rfl, Or.inr rfl, Or.inr rfl, Or.inr rfl, trivial⟩ h
theorem x203_6 {w : zWt} {d : Nat} {H : zHt} {K : Int → zHt → Prop} {l1 : Int} {l2 : Int} {l4 : Int} {l5 : Int} {l6 : Int}
    (h : (l4 < l6 → K l5 H) ∧ (l6 ≤ l4 → (0 ≤ (w32 (l6 - l2)) ∧ (w32 (l6 - l2)) < 201) ∧ (0 ≤ (w32 (l1 - l2)) ∧ (w32 (l1 - l2)) < 201) ∧ (¬ (w64 ((H 89 (w32 (l6 - l2))) * l1)) = (w64 ((H 89 (w32 (l1 - l2))) * l6)) → zgo w d 203 6 [zR 81, zI l1, zI l2, zJ, zI l4, zI (w32 (l5 + 0)), zI (w32 (l6 + 1))] [] H (zQI K)) ∧ ((w64 ((H 89 (w32 (l6 - l2))) * l1)) = (w64 ((H 89 (w32 (l1 - l2))) * l6)) → zgo w d 203 6 [zR 81, zI l1, zI l2, zJ, zI l4, zI (w32 (l5 + 1)), zI (w32 (l6 + 1))] [] H (zQI K)))) :
    zgo w d 203 6 [zR 81, zI l1, zI l2, zJ, zI l4, zI l5, zI l6] [] H (zQI K) := by
  refine g_il zp203 rfl rfl rfl ?_
  refine g_il zp203 rfl rfl rfl ?_
  refine g_icmp zp203 rfl rfl zc4 (fun c1 => ?_) (fun c1 => ?_)
  · replace h := h.1 c1
    refine g_il zp203 rfl rfl rfl ?_
    exact g_ret zp203 rfl rfl ⟨_, rfl, h⟩
  · replace h := h.2 c1
    refine g_il zp203 rfl rfl rfl ?_
    refine g_al zp203 rfl rfl rfl (by decide) ?_
    refine g_get (v := zR 89) zp203 rfl rfl rfl ⟨rfl, by decide, (by decide)⟩ rfl ?_
    refine g_il zp203 rfl rfl rfl ?_
    refine g_il zp203 rfl rfl rfl ?_
    refine g_ar (r := w32 (l6 - l2)) zp203 rfl rfl rfl ?_
    obtain ⟨c2, h⟩ := h
    refine g_ald (v := zL (H 89 (w32 (l6 - l2)))) zp203 rfl rfl rfl rfl c2 rfl ?_
    refine g_il zp203 rfl rfl rfl ?_
    refine g_i2l zp203 rfl rfl ?_
    refine g_lar (r := w64 ((H 89 (w32 (l6 - l2))) * l1)) zp203 rfl rfl rfl ?_
    refine g_al zp203 rfl rfl rfl (by decide) ?_
    refine g_get (v := zR 89) zp203 rfl rfl rfl ⟨rfl, by decide, (by decide)⟩ rfl ?_
    refine g_il zp203 rfl rfl rfl ?_
    refine g_il zp203 rfl rfl rfl ?_
    refine g_ar (r := w32 (l1 - l2)) zp203 rfl rfl rfl ?_
    obtain ⟨c3, h⟩ := h
    refine g_ald (v := zL (H 89 (w32 (l1 - l2)))) zp203 rfl rfl rfl rfl c3 rfl ?_
    refine g_il zp203 rfl rfl rfl ?_
    refine g_i2l zp203 rfl rfl ?_
    refine g_lar (r := w64 ((H 89 (w32 (l1 - l2))) * l6)) zp203 rfl rfl rfl ?_
    refine g_lcmp zp203 rfl rfl rfl rfl zc1 (fun c4 => ?_) (fun c4 => ?_)
    · replace h := h.1 c4
      refine g_ic zp203 rfl rfl ?_
      refine g_ar (r := w32 (l5 + 0)) zp203 rfl rfl rfl ?_
      refine g_is (ls' := [zR 81, zI l1, zI l2, zJ, zI l4, zI (w32 (l5 + 0)), zI l6]) zp203 rfl rfl (Nat.le_of_ble_eq_true rfl) rfl ?_
      refine g_inc (ls' := [zR 81, zI l1, zI l2, zJ, zI l4, zI (w32 (l5 + 0)), zI (w32 (l6 + 1))]) zp203 rfl rfl rfl rfl ?_
      refine g_goto zp203 rfl ?_
      exact g_weak (ls' := [zR 81, zI l1, zI l2, zJ, zI l4, zI (w32 (l5 + 0)), zI (w32 (l6 + 1))]) ⟨Or.inr rfl, Or.inr rfl, Or.inr rfl, Or.inr rfl, Or.inr rfl, Or.inr rfl, Or.inr rfl, trivial⟩ h
    · replace h := h.2 c4
      refine g_ic zp203 rfl rfl ?_
      refine g_goto zp203 rfl ?_
      refine g_ar (r := w32 (l5 + 1)) zp203 rfl rfl rfl ?_
      refine g_is (ls' := [zR 81, zI l1, zI l2, zJ, zI l4, zI (w32 (l5 + 1)), zI l6]) zp203 rfl rfl (Nat.le_of_ble_eq_true rfl) rfl ?_
      refine g_inc (ls' := [zR 81, zI l1, zI l2, zJ, zI l4, zI (w32 (l5 + 1)), zI (w32 (l6 + 1))]) zp203 rfl rfl rfl rfl ?_
      refine g_goto zp203 rfl ?_
      exact g_weak (ls' := [zR 81, zI l1, zI l2, zJ, zI l4, zI (w32 (l5 + 1)), zI (w32 (l6 + 1))]) ⟨Or.inr rfl, Or.inr rfl, Or.inr rfl, Or.inr rfl, Or.inr rfl, Or.inr rfl, Or.inr rfl, trivial⟩ h
