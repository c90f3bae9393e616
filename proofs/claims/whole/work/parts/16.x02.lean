/-! segments: what suffices for a run from there on (by wip/whole/gen3.py) -/
theorem zp49 : zprog.getD 49 [] = zk49 := rfl
theorem x49_0 {w : zWt} {d : Nat} {H : zHt} {K : Int → zHt → Prop} {l0 : Int} {l1 : Int} {l2 : Int}
    (h : zgo w d 49 9 [zJ, zJ, zI l2, zL 1, zJ, zL l0, zJ, zI l1] [] H (zQL K)) :
    zclL w d 49 [zI l0, zI l1, zI l2] H K := by
  show zgo w d 49 0 [zI l0, zI l1, zI l2, zJ, zJ, zJ, zJ, zJ] [] H (zQL K)
  refine g_lc zp49 rfl rfl ?_
  refine g_ls (ls' := [zI l0, zI l1, zI l2, zL 1, zJ, zJ, zJ, zJ]) zp49 rfl rfl (Nat.le_of_ble_eq_true rfl) rfl ?_
  refine g_il zp49 rfl rfl rfl ?_
  refine g_i2l zp49 rfl rfl ?_
  refine g_ls (ls' := [zI l0, zI l1, zI l2, zL 1, zJ, zL l0, zJ, zJ]) zp49 rfl rfl (Nat.le_of_ble_eq_true rfl) rfl ?_
  refine g_il zp49 rfl rfl rfl ?_
  refine g_is (ls' := [zI l0, zI l1, zI l2, zL 1, zJ, zL l0, zJ, zI l1]) zp49 rfl rfl (Nat.le_of_ble_eq_true rfl) rfl ?_
  exact g_weak (ls' := [zJ, zJ, zI l2, zL 1, zJ, zL l0, zJ, zI l1]) ⟨Or.inl rfl, Or.inl rfl, Or.inr rfl, Or.inr rfl, Or.inr rfl, Or.inr rfl, Or.inr rfl, Or.inr rfl, trivial⟩ h
theorem x49_9 {w : zWt} {d : Nat} {H : zHt} {K : Int → zHt → Prop} {l2 : Int} {l3 : Int} {l5 : Int} {l7 : Int}
    (h : (l7 ≤ 0 → K l3 H) ∧ (0 < l7 → (l2 ≤ 0 → K l3 H) ∧ (0 < l2 → ((Int.tmod l7 2) = 0 → (l2 ≠ 0) ∧ zgo w d 49 9 [zJ, zJ, zI l2, zL l3, zJ, zL (Int.tmod (w64 (l5 * l5)) l2), zJ, zI (w32 (Int.tdiv l7 2))] [] H (zQL K)) ∧ (¬ (Int.tmod l7 2) = 0 → (l2 ≠ 0) ∧ zgo w d 49 9 [zJ, zJ, zI l2, zL (Int.tmod (w64 (l3 * l5)) l2), zJ, zL (Int.tmod (w64 (l5 * l5)) l2), zJ, zI (w32 (Int.tdiv l7 2))] [] H (zQL K))))) :
    zgo w d 49 9 [zJ, zJ, zI l2, zL l3, zJ, zL l5, zJ, zI l7] [] H (zQL K) := by
  refine g_il zp49 rfl rfl rfl ?_
  refine g_if zp49 rfl rfl zc5 (fun c1 => ?_) (fun c1 => ?_)
  · replace h := h.1 c1
    refine g_ll zp49 rfl rfl rfl ?_
    exact g_ret zp49 rfl rfl ⟨_, rfl, h⟩
  · replace h := h.2 c1
    refine g_il zp49 rfl rfl rfl ?_
    refine g_if zp49 rfl rfl zc5 (fun c2 => ?_) (fun c2 => ?_)
    · replace h := h.1 c2
      refine g_ll zp49 rfl rfl rfl ?_
      exact g_ret zp49 rfl rfl ⟨_, rfl, h⟩
    · replace h := h.2 c2
      refine g_il zp49 rfl rfl rfl ?_
      refine g_ic zp49 rfl rfl ?_
      refine g_ar (r := Int.tmod l7 2) zp49 rfl rfl (zr_rem (by decide)) ?_
      refine g_if zp49 rfl rfl zc0 (fun c3 => ?_) (fun c3 => ?_)
      · replace h := h.1 c3
        refine g_ll zp49 rfl rfl rfl ?_
        refine g_ll zp49 rfl rfl rfl ?_
        refine g_lar (r := w64 (l5 * l5)) zp49 rfl rfl rfl ?_
        refine g_il zp49 rfl rfl rfl ?_
        refine g_i2l zp49 rfl rfl ?_
        obtain ⟨c4, h⟩ := h
        refine g_lar (r := Int.tmod (w64 (l5 * l5)) l2) zp49 rfl rfl (zr_lrem c4) ?_
        refine g_ls (ls' := [zJ, zJ, zI l2, zL l3, zJ, zL (Int.tmod (w64 (l5 * l5)) l2), zJ, zI l7]) zp49 rfl rfl (Nat.le_of_ble_eq_true rfl) rfl ?_
        refine g_il zp49 rfl rfl rfl ?_
        refine g_ic zp49 rfl rfl ?_
        refine g_ar (r := w32 (Int.tdiv l7 2)) zp49 rfl rfl (zr_div (by decide)) ?_
        refine g_is (ls' := [zJ, zJ, zI l2, zL l3, zJ, zL (Int.tmod (w64 (l5 * l5)) l2), zJ, zI (w32 (Int.tdiv l7 2))]) zp49 rfl rfl (Nat.le_of_ble_eq_true rfl) rfl ?_
        refine g_goto zp49 rfl ?_
        exact g_weak (ls' := [zJ, zJ, zI l2, zL l3, zJ, zL (Int.tmod (w64 (l5 * l5)) l2), zJ, zI (w32 (Int.tdiv l7 2))]) ⟨Or.inr rfl, Or.inr rfl, Or.inr rfl, Or.inr rfl, Or.inr rfl, Or.inr rfl, Or.inr rfl, Or.inr rfl, trivial⟩ h
      · replace h := h.2 c3
        refine g_ll zp49 rfl rfl rfl ?_
        refine g_ll zp49 rfl rfl rfl ?_
        refine g_lar (r := w64 (l3 * l5)) zp49 rfl rfl rfl ?_
        refine g_il zp49 rfl rfl rfl ?_
        refine g_i2l zp49 rfl rfl ?_
        obtain ⟨c5, h⟩ := h
        refine g_lar (r := Int.tmod (w64 (l3 * l5)) l2) zp49 rfl rfl (zr_lrem c5) ?_
        refine g_ls (ls' := [zJ, zJ, zI l2, zL (Int.tmod (w64 (l3 * l5)) l2), zJ, zL l5, zJ, zI l7]) zp49 rfl rfl (Nat.le_of_ble_eq_true rfl) rfl ?_
        refine g_ll zp49 rfl rfl rfl ?_
        refine g_ll zp49 rfl rfl rfl ?_
        refine g_lar (r := w64 (l5 * l5)) zp49 rfl rfl rfl ?_
        refine g_il zp49 rfl rfl rfl ?_
        refine g_i2l zp49 rfl rfl ?_
        refine g_lar (r := Int.tmod (w64 (l5 * l5)) l2) zp49 rfl rfl (zr_lrem c5) ?_
        refine g_ls (ls' := [zJ, zJ, zI l2, zL (Int.tmod (w64 (l3 * l5)) l2), zJ, zL (Int.tmod (w64 (l5 * l5)) l2), zJ, zI l7]) zp49 rfl rfl (Nat.le_of_ble_eq_true rfl) rfl ?_
        refine g_il zp49 rfl rfl rfl ?_
        refine g_ic zp49 rfl rfl ?_
        refine g_ar (r := w32 (Int.tdiv l7 2)) zp49 rfl rfl (zr_div (by decide)) ?_
        refine g_is (ls' := [zJ, zJ, zI l2, zL (Int.tmod (w64 (l3 * l5)) l2), zJ, zL (Int.tmod (w64 (l5 * l5)) l2), zJ, zI (w32 (Int.tdiv l7 2))]) zp49 rfl rfl (Nat.le_of_ble_eq_true rfl) rfl ?_
        refine g_goto zp49 rfl ?_
        exact g_weak (ls' := [zJ, zJ, zI l2, zL (Int.tmod (w64 (l3 * l5)) l2), zJ, zL (Int.tmod (w64 (l5 * l5)) l2), zJ, zI (w32 (Int.tdiv l7 2))]) ⟨Or.inr rfl, Or.inr rfl, Or.inr rfl, Or.inr rfl, Or.inr rfl, Or.inr rfl, Or.inr rfl, Or.inr rfl, trivial⟩ h
theorem zp50 : zprog.getD 50 [] = zk50 := rfl
theorem x50_0 {w : zWt} {d : Nat} {H : zHt} {K : Int → zHt → Prop} {l0 : Int}
    (h : zgo w d 50 4 [zI l0, zI 1009] [] H (zQI K)) :
    zclI w d 50 [zI l0] H K := by
  show zgo w d 50 0 [zI l0, zJ] [] H (zQI K)
  refine g_ic zp50 rfl rfl ?_
  refine g_is (ls' := [zI l0, zI 1009]) zp50 rfl rfl (Nat.le_of_ble_eq_true rfl) rfl ?_
  exact g_weak (ls' := [zI l0, zI 1009]) ⟨Or.inr rfl, Or.inr rfl, trivial⟩ h
theorem x50_4 {w : zWt} {d : Nat} {H : zHt} {K : Int → zHt → Prop} {l0 : Int} {l1 : Int}
    (h : (l1 ≠ 0) ∧ ((w32 (Int.tdiv l0 l1)) < l1 → K l0 H) ∧ (l1 ≤ (w32 (Int.tdiv l0 l1)) → (¬ (Int.tmod l0 l1) = 0 → ((w32 (l1 + 4)) ≠ 0) ∧ (¬ (Int.tmod l0 (w32 (l1 + 4))) = 0 → zgo w d 50 4 [zI l0, zI (w32 (l1 + 6))] [] H (zQI K)) ∧ ((Int.tmod l0 (w32 (l1 + 4))) = 0 → K (w32 (l1 + 4)) H)) ∧ ((Int.tmod l0 l1) = 0 → K l1 H))) :
    zgo w d 50 4 [zI l0, zI l1] [] H (zQI K) := by
  refine g_il zp50 rfl rfl rfl ?_
  refine g_il zp50 rfl rfl rfl ?_
  refine g_il zp50 rfl rfl rfl ?_
  obtain ⟨c1, h⟩ := h
  refine g_ar (r := w32 (Int.tdiv l0 l1)) zp50 rfl rfl (zr_div c1) ?_
  refine g_icmp zp50 rfl rfl zc4 (fun c2 => ?_) (fun c2 => ?_)
  · replace h := h.1 c2
    refine g_il zp50 rfl rfl rfl ?_
    exact g_ret zp50 rfl rfl ⟨_, rfl, h⟩
  · replace h := h.2 c2
    refine g_il zp50 rfl rfl rfl ?_
    refine g_il zp50 rfl rfl rfl ?_
    refine g_ar (r := Int.tmod l0 l1) zp50 rfl rfl (zr_rem c1) ?_
    refine g_if zp50 rfl rfl zc1 (fun c3 => ?_) (fun c3 => ?_)
    · replace h := h.1 c3
      refine g_il zp50 rfl rfl rfl ?_
      refine g_il zp50 rfl rfl rfl ?_
      refine g_ic zp50 rfl rfl ?_
      refine g_ar (r := w32 (l1 + 4)) zp50 rfl rfl rfl ?_
      obtain ⟨c4, h⟩ := h
      refine g_ar (r := Int.tmod l0 (w32 (l1 + 4))) zp50 rfl rfl (zr_rem c4) ?_
      refine g_if zp50 rfl rfl zc1 (fun c5 => ?_) (fun c5 => ?_)
      · replace h := h.1 c5
        refine g_inc (ls' := [zI l0, zI (w32 (l1 + 6))]) zp50 rfl rfl rfl rfl ?_
        refine g_goto zp50 rfl ?_
        exact g_weak (ls' := [zI l0, zI (w32 (l1 + 6))]) ⟨Or.inr rfl, Or.inr rfl, trivial⟩ h
      · replace h := h.2 c5
        refine g_il zp50 rfl rfl rfl ?_
        refine g_ic zp50 rfl rfl ?_
        refine g_ar (r := w32 (l1 + 4)) zp50 rfl rfl rfl ?_
        exact g_ret zp50 rfl rfl ⟨_, rfl, h⟩
    · replace h := h.2 c3
      refine g_il zp50 rfl rfl rfl ?_
      exact g_ret zp50 rfl rfl ⟨_, rfl, h⟩
theorem zp51 : zprog.getD 51 [] = zk51 := rfl
theorem x51_0 {w : zWt} {d : Nat} {H : zHt} {K : Int → zHt → Prop} {l1 : Int}
    (h : zclI w d 43 [zI l1] H (fun x2 H1 => (¬ x2 = 0 → zclL w d 52 [zR 32, zI l1] H1 (fun x5 H4 => zclL w d 60 [zR 32, zL x5] H4 (fun x7 H6 => K x7 H6))) ∧ (x2 = 0 → zclI w d 13 [zR 32, zI 1] H1 (fun x9 H8 => K x9 H8)))) :
    zclL w (d + 1) 51 [zR 32, zI l1] H K := by
  show zgo w (d + 1) 51 0 [zR 32, zI l1] [] H (zQL K)
  refine g_il zp51 rfl rfl rfl ?_
  refine g_callI (as := [zI l1]) (rest := []) zp51 rfl rfl (Nat.succ_pos _) rfl rfl (Nat.le_of_ble_eq_true rfl) (Nat.le_of_ble_eq_true rfl) rfl rfl h (fun x2 H1 h => ?_)
  refine g_if zp51 rfl rfl zc1 (fun c3 => ?_) (fun c3 => ?_)
  · replace h := h.1 c3
    refine g_al zp51 rfl rfl rfl (by decide) ?_
    refine g_al zp51 rfl rfl rfl (by decide) ?_
    refine g_il zp51 rfl rfl rfl ?_
    refine g_callL (as := [zR 32, zI l1]) (rest := [zR 32]) zp51 rfl rfl (Nat.succ_pos _) rfl rfl (Nat.le_of_ble_eq_true rfl) (Nat.le_of_ble_eq_true rfl) rfl rfl h (fun x5 H4 h => ?_)
    refine g_callL (as := [zR 32, zL x5]) (rest := []) zp51 rfl rfl (Nat.succ_pos _) rfl rfl (Nat.le_of_ble_eq_true rfl) (Nat.le_of_ble_eq_true rfl) rfl rfl h (fun x7 H6 h => ?_)
    exact g_ret zp51 rfl rfl ⟨_, rfl, h⟩
  · replace h := h.2 c3
    refine g_al zp51 rfl rfl rfl (by decide) ?_
    refine g_ic zp51 rfl rfl ?_
    refine g_callI (as := [zR 32, zI 1]) (rest := []) zp51 rfl rfl (Nat.succ_pos _) rfl rfl (Nat.le_of_ble_eq_true rfl) (Nat.le_of_ble_eq_true rfl) rfl rfl h (fun x9 H8 h => ?_)
    refine g_i2l zp51 rfl rfl ?_
    exact g_ret zp51 rfl rfl ⟨_, rfl, h⟩
theorem zp52 : zprog.getD 52 [] = zk52 := rfl
theorem x52_0 {w : zWt} {d : Nat} {H : zHt} {K : Int → zHt → Prop} {l1 : Int}
    (h : zclL w d 53 [zR 36, zI (H 40 4), zI l1] H (fun x2 H1 => K x2 H1)) :
    zclL w (d + 1) 52 [zR 32, zI l1] H K := by
  show zgo w (d + 1) 52 0 [zR 32, zI l1] [] H (zQL K)
  refine g_al zp52 rfl rfl rfl (by decide) ?_
  refine g_get (v := zR 36) zp52 rfl rfl rfl ⟨rfl, by decide, (by decide)⟩ rfl ?_
  refine g_al zp52 rfl rfl rfl (by decide) ?_
  refine g_get (v := zR 40) zp52 rfl rfl rfl ⟨rfl, by decide, (by decide)⟩ rfl ?_
  refine g_get (v := zI (H 40 4)) zp52 rfl rfl rfl ⟨rfl, by decide, (by decide)⟩ rfl ?_
  refine g_il zp52 rfl rfl rfl ?_
  refine g_callL (as := [zR 36, zI (H 40 4), zI l1]) (rest := []) zp52 rfl rfl (Nat.succ_pos _) rfl rfl (Nat.le_of_ble_eq_true rfl) (Nat.le_of_ble_eq_true rfl) rfl rfl h (fun x2 H1 h => ?_)
  exact g_ret zp52 rfl rfl ⟨_, rfl, h⟩
theorem zp53 : zprog.getD 53 [] = zk53 := rfl
theorem x53_0 {w : zWt} {d : Nat} {H : zHt} {K : Int → zHt → Prop} {l1 : Int} {l2 : Int}
    (h : (1 < l2 → zclV w d 45 [zR 36, zI l2] H (fun H2 => (¬ l1 = 1 → (¬ l1 = 3 → zclL w d 58 [zR 36] H2 (fun x7 H6 => (¬ l1 = 2 → K (w64 ((w64 (x7 - l2)) - 0)) H6) ∧ (l1 = 2 → K (w64 ((w64 (x7 - l2)) - 1)) H6))) ∧ (l1 = 3 → zclL w d 56 [zR 36] H2 (fun x10 H9 => zclI w d 57 [zR 36] H9 (fun x12 H11 => (x12 = 0 → K (w64 (x10 - 0)) H11) ∧ (¬ x12 = 0 → K (w64 (x10 - l2)) H11))))) ∧ (l1 = 1 → zclL w d 54 [zR 36] H2 (fun x15 H14 => K (w64 (x15 - l2)) H14)))) ∧ (l2 ≤ 1 → K 0 H)) :
    zclL w (d + 1) 53 [zR 36, zI l1, zI l2] H K := by
  show zgo w (d + 1) 53 0 [zR 36, zI l1, zI l2] [] H (zQL K)
  refine g_il zp53 rfl rfl rfl ?_
  refine g_ic zp53 rfl rfl ?_
  refine g_icmp zp53 rfl rfl zc4 (fun c1 => ?_) (fun c1 => ?_)
  · replace h := h.1 c1
    refine g_al zp53 rfl rfl rfl (by decide) ?_
    refine g_il zp53 rfl rfl rfl ?_
    refine g_callV (as := [zR 36, zI l2]) (rest := []) zp53 rfl rfl (Nat.succ_pos _) rfl rfl (Nat.le_of_ble_eq_true rfl) (Nat.le_of_ble_eq_true rfl) rfl rfl h (fun H2 h => ?_)
    refine g_il zp53 rfl rfl rfl ?_
    refine g_ic zp53 rfl rfl ?_
    refine g_icmp zp53 rfl rfl zc1 (fun c4 => ?_) (fun c4 => ?_)
    · replace h := h.1 c4
      refine g_il zp53 rfl rfl rfl ?_
      refine g_ic zp53 rfl rfl ?_
      refine g_icmp zp53 rfl rfl zc1 (fun c5 => ?_) (fun c5 => ?_)
      · replace h := h.1 c5
        refine g_al zp53 rfl rfl rfl (by decide) ?_
        refine g_callL (as := [zR 36]) (rest := []) zp53 rfl rfl (Nat.succ_pos _) rfl rfl (Nat.le_of_ble_eq_true rfl) (Nat.le_of_ble_eq_true rfl) rfl rfl h (fun x7 H6 h => ?_)
        refine g_il zp53 rfl rfl rfl ?_
        refine g_i2l zp53 rfl rfl ?_
        refine g_lar (r := w64 (x7 - l2)) zp53 rfl rfl rfl ?_
        refine g_il zp53 rfl rfl rfl ?_
        refine g_ic zp53 rfl rfl ?_
        refine g_icmp zp53 rfl rfl zc1 (fun c8 => ?_) (fun c8 => ?_)
        · replace h := h.1 c8
          refine g_ic zp53 rfl rfl ?_
          refine g_i2l zp53 rfl rfl ?_
          refine g_lar (r := w64 ((w64 (x7 - l2)) - 0)) zp53 rfl rfl rfl ?_
          exact g_ret zp53 rfl rfl ⟨_, rfl, h⟩
        · replace h := h.2 c8
          refine g_ic zp53 rfl rfl ?_
          refine g_goto zp53 rfl ?_
          refine g_i2l zp53 rfl rfl ?_
          refine g_lar (r := w64 ((w64 (x7 - l2)) - 1)) zp53 rfl rfl rfl ?_
          exact g_ret zp53 rfl rfl ⟨_, rfl, h⟩
      · replace h := h.2 c5
        refine g_al zp53 rfl rfl rfl (by decide) ?_
        refine g_callL (as := [zR 36]) (rest := []) zp53 rfl rfl (Nat.succ_pos _) rfl rfl (Nat.le_of_ble_eq_true rfl) (Nat.le_of_ble_eq_true rfl) rfl rfl h (fun x10 H9 h => ?_)
        refine g_al zp53 rfl rfl rfl (by decide) ?_
        refine g_callI (as := [zR 36]) (rest := [zL x10]) zp53 rfl rfl (Nat.succ_pos _) rfl rfl (Nat.le_of_ble_eq_true rfl) (Nat.le_of_ble_eq_true rfl) rfl rfl h (fun x12 H11 h => ?_)
        refine g_if zp53 rfl rfl zc0 (fun c13 => ?_) (fun c13 => ?_)
        · replace h := h.1 c13
          refine g_ic zp53 rfl rfl ?_
          refine g_i2l zp53 rfl rfl ?_
          refine g_lar (r := w64 (x10 - 0)) zp53 rfl rfl rfl ?_
          exact g_ret zp53 rfl rfl ⟨_, rfl, h⟩
        · replace h := h.2 c13
          refine g_il zp53 rfl rfl rfl ?_
          refine g_goto zp53 rfl ?_
          refine g_i2l zp53 rfl rfl ?_
          refine g_lar (r := w64 (x10 - l2)) zp53 rfl rfl rfl ?_
          exact g_ret zp53 rfl rfl ⟨_, rfl, h⟩
    · replace h := h.2 c4
      refine g_al zp53 rfl rfl rfl (by decide) ?_
      refine g_callL (as := [zR 36]) (rest := []) zp53 rfl rfl (Nat.succ_pos _) rfl rfl (Nat.le_of_ble_eq_true rfl) (Nat.le_of_ble_eq_true rfl) rfl rfl h (fun x15 H14 h => ?_)
      refine g_il zp53 rfl rfl rfl ?_
      refine g_i2l zp53 rfl rfl ?_
      refine g_lar (r := w64 (x15 - l2)) zp53 rfl rfl rfl ?_
      exact g_ret zp53 rfl rfl ⟨_, rfl, h⟩
  · replace h := h.2 c1
    refine g_lc zp53 rfl rfl ?_
    exact g_ret zp53 rfl rfl ⟨_, rfl, h⟩
theorem zp54 : zprog.getD 54 [] = zk54 := rfl
theorem x54_0 {w : zWt} {d : Nat} {H : zHt} {K : Int → zHt → Prop} 
    (h : zgo w (d + 1) 54 4 [zR 36, zL 1, zJ, zI 0] [] H (zQL K)) :
    zclL w (d + 1) 54 [zR 36] H K := by
  show zgo w (d + 1) 54 0 [zR 36, zJ, zJ, zJ] [] H (zQL K)
  refine g_lc zp54 rfl rfl ?_
  refine g_ls (ls' := [zR 36, zL 1, zJ, zJ]) zp54 rfl rfl (Nat.le_of_ble_eq_true rfl) rfl ?_
  refine g_ic zp54 rfl rfl ?_
  refine g_is (ls' := [zR 36, zL 1, zJ, zI 0]) zp54 rfl rfl (Nat.le_of_ble_eq_true rfl) rfl ?_
  exact g_weak (ls' := [zR 36, zL 1, zJ, zI 0]) ⟨Or.inr rfl, Or.inr rfl, Or.inr rfl, Or.inr rfl, trivial⟩ h
theorem x54_4 {w : zWt} {d : Nat} {H : zHt} {K : Int → zHt → Prop} {l1 : Int} {l3 : Int}
    (h : ((H 36 3) ≤ l3 → K l1 H) ∧ (l3 < (H 36 3) → (0 ≤ l3 ∧ l3 < 9) ∧ zclL w d 55 [zI (H 37 l3), zI (H 38 l3)] H (fun x4 H3 => zgo w (d + 1) 54 4 [zR 36, zL (w64 (l1 * (w64 (x4 + 1)))), zJ, zI (w32 (l3 + 1))] [] H3 (zQL K)))) :
    zgo w (d + 1) 54 4 [zR 36, zL l1, zJ, zI l3] [] H (zQL K) := by
  refine g_il zp54 rfl rfl rfl ?_
  refine g_al zp54 rfl rfl rfl (by decide) ?_
  refine g_get (v := zI (H 36 3)) zp54 rfl rfl rfl ⟨rfl, by decide, (by decide)⟩ rfl ?_
  refine g_icmp zp54 rfl rfl zc3 (fun c1 => ?_) (fun c1 => ?_)
  · replace h := h.1 c1
    refine g_ll zp54 rfl rfl rfl ?_
    exact g_ret zp54 rfl rfl ⟨_, rfl, h⟩
  · replace h := h.2 c1
    refine g_ll zp54 rfl rfl rfl ?_
    refine g_al zp54 rfl rfl rfl (by decide) ?_
    refine g_get (v := zR 37) zp54 rfl rfl rfl ⟨rfl, by decide, (by decide)⟩ rfl ?_
    refine g_il zp54 rfl rfl rfl ?_
    obtain ⟨c2, h⟩ := h
    refine g_ald (v := zI (H 37 l3)) zp54 rfl rfl rfl rfl c2 rfl ?_
    refine g_al zp54 rfl rfl rfl (by decide) ?_
    refine g_get (v := zR 38) zp54 rfl rfl rfl ⟨rfl, by decide, (by decide)⟩ rfl ?_
    refine g_il zp54 rfl rfl rfl ?_
    refine g_ald (v := zI (H 38 l3)) zp54 rfl rfl rfl rfl c2 rfl ?_
    refine g_callL (as := [zI (H 37 l3), zI (H 38 l3)]) (rest := [zL l1]) zp54 rfl rfl (Nat.succ_pos _) rfl rfl (Nat.le_of_ble_eq_true rfl) (Nat.le_of_ble_eq_true rfl) rfl rfl h (fun x4 H3 h => ?_)
    refine g_lc zp54 rfl rfl ?_
    refine g_lar (r := w64 (x4 + 1)) zp54 rfl rfl rfl ?_
    refine g_lar (r := w64 (l1 * (w64 (x4 + 1)))) zp54 rfl rfl rfl ?_
    refine g_ls (ls' := [zR 36, zL (w64 (l1 * (w64 (x4 + 1)))), zJ, zI l3]) zp54 rfl rfl (Nat.le_of_ble_eq_true rfl) rfl ?_
    refine g_inc (ls' := [zR 36, zL (w64 (l1 * (w64 (x4 + 1)))), zJ, zI (w32 (l3 + 1))]) zp54 rfl rfl rfl rfl ?_
    refine g_goto zp54 rfl ?_
    exact g_weak (ls' := [zR 36, zL (w64 (l1 * (w64 (x4 + 1)))), zJ, zI (w32 (l3 + 1))]) ⟨Or.inr rfl, Or.inr rfl, Or.inr rfl, Or.inr rfl, trivial⟩ h
theorem zp55 : zprog.getD 55 [] = zk55 := rfl
theorem x55_0 {w : zWt} {d : Nat} {H : zHt} {K : Int → zHt → Prop} {l0 : Int} {l1 : Int}
    (h : zgo w d 55 5 [zI l0, zI l1, zL 1, zJ, zI 0] [] H (zQL K)) :
    zclL w d 55 [zI l0, zI l1] H K := by
  show zgo w d 55 0 [zI l0, zI l1, zJ, zJ, zJ] [] H (zQL K)
  refine g_lc zp55 rfl rfl ?_
  refine g_ls (ls' := [zI l0, zI l1, zL 1, zJ, zJ]) zp55 rfl rfl (Nat.le_of_ble_eq_true rfl) rfl ?_
  refine g_ic zp55 rfl rfl ?_
  refine g_is (ls' := [zI l0, zI l1, zL 1, zJ, zI 0]) zp55 rfl rfl (Nat.le_of_ble_eq_true rfl) rfl ?_
  exact g_weak (ls' := [zI l0, zI l1, zL 1, zJ, zI 0]) ⟨Or.inr rfl, Or.inr rfl, Or.inr rfl, Or.inr rfl, Or.inr rfl, trivial⟩ h
theorem x55_5 {w : zWt} {d : Nat} {H : zHt} {K : Int → zHt → Prop} {l0 : Int} {l1 : Int} {l2 : Int} {l4 : Int}
    (h : (l1 ≤ l4 → K l2 H) ∧ (l4 < l1 → zgo w d 55 5 [zI l0, zI l1, zL (w64 (l2 * l0)), zJ, zI (w32 (l4 + 1))] [] H (zQL K))) :
    zgo w d 55 5 [zI l0, zI l1, zL l2, zJ, zI l4] [] H (zQL K) := by
  refine g_il zp55 rfl rfl rfl ?_
  refine g_il zp55 rfl rfl rfl ?_
  refine g_icmp zp55 rfl rfl zc3 (fun c1 => ?_) (fun c1 => ?_)
  · replace h := h.1 c1
    refine g_ll zp55 rfl rfl rfl ?_
    exact g_ret zp55 rfl rfl ⟨_, rfl, h⟩
  · replace h := h.2 c1
    refine g_ll zp55 rfl rfl rfl ?_
    refine g_il zp55 rfl rfl rfl ?_
    refine g_i2l zp55 rfl rfl ?_
    refine g_lar (r := w64 (l2 * l0)) zp55 rfl rfl rfl ?_
    refine g_ls (ls' := [zI l0, zI l1, zL (w64 (l2 * l0)), zJ, zI l4]) zp55 rfl rfl (Nat.le_of_ble_eq_true rfl) rfl ?_
    refine g_inc (ls' := [zI l0, zI l1, zL (w64 (l2 * l0)), zJ, zI (w32 (l4 + 1))]) zp55 rfl rfl rfl rfl ?_
    refine g_goto zp55 rfl ?_
    exact g_weak (ls' := [zI l0, zI l1, zL (w64 (l2 * l0)), zJ, zI (w32 (l4 + 1))]) ⟨Or.inr rfl, Or.inr rfl, Or.inr rfl, Or.inr rfl, Or.inr rfl, trivial⟩ h
theorem zp56 : zprog.getD 56 [] = zk56 := rfl
theorem x56_0 {w : zWt} {d : Nat} {H : zHt} {K : Int → zHt → Prop} 
    (h : zgo w d 56 4 [zR 36, zL 1, zJ, zI 0] [] H (zQL K)) :
    zclL w d 56 [zR 36] H K := by
  show zgo w d 56 0 [zR 36, zJ, zJ, zJ] [] H (zQL K)
  refine g_lc zp56 rfl rfl ?_
  refine g_ls (ls' := [zR 36, zL 1, zJ, zJ]) zp56 rfl rfl (Nat.le_of_ble_eq_true rfl) rfl ?_
  refine g_ic zp56 rfl rfl ?_
  refine g_is (ls' := [zR 36, zL 1, zJ, zI 0]) zp56 rfl rfl (Nat.le_of_ble_eq_true rfl) rfl ?_
  exact g_weak (ls' := [zR 36, zL 1, zJ, zI 0]) ⟨Or.inr rfl, Or.inr rfl, Or.inr rfl, Or.inr rfl, trivial⟩ h
theorem x56_4 {w : zWt} {d : Nat} {H : zHt} {K : Int → zHt → Prop} {l1 : Int} {l3 : Int}
    (h : ((H 36 3) ≤ l3 → K l1 H) ∧ (l3 < (H 36 3) → (0 ≤ l3 ∧ l3 < 9) ∧ zgo w d 56 4 [zR 36, zL (w64 (l1 * (w32 ((H 37 l3) + 1)))), zJ, zI (w32 (l3 + 1))] [] H (zQL K))) :
    zgo w d 56 4 [zR 36, zL l1, zJ, zI l3] [] H (zQL K) := by
  refine g_il zp56 rfl rfl rfl ?_
  refine g_al zp56 rfl rfl rfl (by decide) ?_
  refine g_get (v := zI (H 36 3)) zp56 rfl rfl rfl ⟨rfl, by decide, (by decide)⟩ rfl ?_
  refine g_icmp zp56 rfl rfl zc3 (fun c1 => ?_) (fun c1 => ?_)
  · replace h := h.1 c1
    refine g_ll zp56 rfl rfl rfl ?_
    exact g_ret zp56 rfl rfl ⟨_, rfl, h⟩
  · replace h := h.2 c1
    refine g_ll zp56 rfl rfl rfl ?_
    refine g_al zp56 rfl rfl rfl (by decide) ?_
    refine g_get (v := zR 37) zp56 rfl rfl rfl ⟨rfl, by decide, (by decide)⟩ rfl ?_
    refine g_il zp56 rfl rfl rfl ?_
    obtain ⟨c2, h⟩ := h
    refine g_ald (v := zI (H 37 l3)) zp56 rfl rfl rfl rfl c2 rfl ?_
    refine g_ic zp56 rfl rfl ?_
    refine g_ar (r := w32 ((H 37 l3) + 1)) zp56 rfl rfl rfl ?_
    refine g_i2l zp56 rfl rfl ?_
    refine g_lar (r := w64 (l1 * (w32 ((H 37 l3) + 1)))) zp56 rfl rfl rfl ?_
    refine g_ls (ls' := [zR 36, zL (w64 (l1 * (w32 ((H 37 l3) + 1)))), zJ, zI l3]) zp56 rfl rfl (Nat.le_of_ble_eq_true rfl) rfl ?_
    refine g_inc (ls' := [zR 36, zL (w64 (l1 * (w32 ((H 37 l3) + 1)))), zJ, zI (w32 (l3 + 1))]) zp56 rfl rfl rfl rfl ?_
    refine g_goto zp56 rfl ?_
    exact g_weak (ls' := [zR 36, zL (w64 (l1 * (w32 ((H 37 l3) + 1)))), zJ, zI (w32 (l3 + 1))]) ⟨Or.inr rfl, Or.inr rfl, Or.inr rfl, Or.inr rfl, trivial⟩ h
theorem zp57 : zprog.getD 57 [] = zk57 := rfl
theorem x57_0 {w : zWt} {d : Nat} {H : zHt} {K : Int → zHt → Prop} 
    (h : zgo w d 57 2 [zR 36, zI 0] [] H (zQI K)) :
    zclI w d 57 [zR 36] H K := by
  show zgo w d 57 0 [zR 36, zJ] [] H (zQI K)
  refine g_ic zp57 rfl rfl ?_
  refine g_is (ls' := [zR 36, zI 0]) zp57 rfl rfl (Nat.le_of_ble_eq_true rfl) rfl ?_
  exact g_weak (ls' := [zR 36, zI 0]) ⟨Or.inr rfl, Or.inr rfl, trivial⟩ h
theorem x57_2 {w : zWt} {d : Nat} {H : zHt} {K : Int → zHt → Prop} {l1 : Int}
    (h : ((H 36 3) ≤ l1 → K 1 H) ∧ (l1 < (H 36 3) → (0 ≤ l1 ∧ l1 < 9) ∧ ((H 38 l1) ≤ 1 → zgo w d 57 2 [zR 36, zI (w32 (l1 + 1))] [] H (zQI K)) ∧ (1 < (H 38 l1) → K 0 H))) :
    zgo w d 57 2 [zR 36, zI l1] [] H (zQI K) := by
  refine g_il zp57 rfl rfl rfl ?_
  refine g_al zp57 rfl rfl rfl (by decide) ?_
  refine g_get (v := zI (H 36 3)) zp57 rfl rfl rfl ⟨rfl, by decide, (by decide)⟩ rfl ?_
  refine g_icmp zp57 rfl rfl zc3 (fun c1 => ?_) (fun c1 => ?_)
  · replace h := h.1 c1
    refine g_ic zp57 rfl rfl ?_
    exact g_ret zp57 rfl (zret_b (by decide)) ⟨_, rfl, h⟩
  · replace h := h.2 c1
    refine g_al zp57 rfl rfl rfl (by decide) ?_
    refine g_get (v := zR 38) zp57 rfl rfl rfl ⟨rfl, by decide, (by decide)⟩ rfl ?_
    refine g_il zp57 rfl rfl rfl ?_
    obtain ⟨c2, h⟩ := h
    refine g_ald (v := zI (H 38 l1)) zp57 rfl rfl rfl rfl c2 rfl ?_
    refine g_ic zp57 rfl rfl ?_
    refine g_icmp zp57 rfl rfl zc5 (fun c3 => ?_) (fun c3 => ?_)
    · replace h := h.1 c3
      refine g_inc (ls' := [zR 36, zI (w32 (l1 + 1))]) zp57 rfl rfl rfl rfl ?_
      refine g_goto zp57 rfl ?_
      exact g_weak (ls' := [zR 36, zI (w32 (l1 + 1))]) ⟨Or.inr rfl, Or.inr rfl, trivial⟩ h
    · replace h := h.2 c3
      refine g_ic zp57 rfl rfl ?_
      exact g_ret zp57 rfl (zret_b (by decide)) ⟨_, rfl, h⟩
theorem zp58 : zprog.getD 58 [] = zk58 := rfl
theorem x58_0 {w : zWt} {d : Nat} {H : zHt} {K : Int → zHt → Prop} 
    (h : zgo w (d + 1) 58 4 [zR 36, zL 1, zJ, zI 0] [] H (zQL K)) :
    zclL w (d + 1) 58 [zR 36] H K := by
  show zgo w (d + 1) 58 0 [zR 36, zJ, zJ, zJ] [] H (zQL K)
  refine g_lc zp58 rfl rfl ?_
  refine g_ls (ls' := [zR 36, zL 1, zJ, zJ]) zp58 rfl rfl (Nat.le_of_ble_eq_true rfl) rfl ?_
  refine g_ic zp58 rfl rfl ?_
  refine g_is (ls' := [zR 36, zL 1, zJ, zI 0]) zp58 rfl rfl (Nat.le_of_ble_eq_true rfl) rfl ?_
  exact g_weak (ls' := [zR 36, zL 1, zJ, zI 0]) ⟨Or.inr rfl, Or.inr rfl, Or.inr rfl, Or.inr rfl, trivial⟩ h
theorem x58_4 {w : zWt} {d : Nat} {H : zHt} {K : Int → zHt → Prop} {l1 : Int} {l3 : Int}
    (h : ((H 36 3) ≤ l3 → K l1 H) ∧ (l3 < (H 36 3) → zclL w d 59 [zR 36, zI l3] H (fun x3 H2 => zgo w (d + 1) 58 4 [zR 36, zL (w64 (l1 * x3)), zJ, zI (w32 (l3 + 1))] [] H2 (zQL K)))) :
    zgo w (d + 1) 58 4 [zR 36, zL l1, zJ, zI l3] [] H (zQL K) := by
  refine g_il zp58 rfl rfl rfl ?_
  refine g_al zp58 rfl rfl rfl (by decide) ?_
  refine g_get (v := zI (H 36 3)) zp58 rfl rfl rfl ⟨rfl, by decide, (by decide)⟩ rfl ?_
  refine g_icmp zp58 rfl rfl zc3 (fun c1 => ?_) (fun c1 => ?_)
  · replace h := h.1 c1
    refine g_ll zp58 rfl rfl rfl ?_
    exact g_ret zp58 rfl rfl ⟨_, rfl, h⟩
  · replace h := h.2 c1
    refine g_ll zp58 rfl rfl rfl ?_
    refine g_al zp58 rfl rfl rfl (by decide) ?_
    refine g_il zp58 rfl rfl rfl ?_
    refine g_callL (as := [zR 36, zI l3]) (rest := [zL l1]) zp58 rfl rfl (Nat.succ_pos _) rfl rfl (Nat.le_of_ble_eq_true rfl) (Nat.le_of_ble_eq_true rfl) rfl rfl h (fun x3 H2 h => ?_)
    refine g_lar (r := w64 (l1 * x3)) zp58 rfl rfl rfl ?_
    refine g_ls (ls' := [zR 36, zL (w64 (l1 * x3)), zJ, zI l3]) zp58 rfl rfl (Nat.le_of_ble_eq_true rfl) rfl ?_
    refine g_inc (ls' := [zR 36, zL (w64 (l1 * x3)), zJ, zI (w32 (l3 + 1))]) zp58 rfl rfl rfl rfl ?_
    refine g_goto zp58 rfl ?_
    exact g_weak (ls' := [zR 36, zL (w64 (l1 * x3)), zJ, zI (w32 (l3 + 1))]) ⟨Or.inr rfl, Or.inr rfl, Or.inr rfl, Or.inr rfl, trivial⟩ h
theorem zp59 : zprog.getD 59 [] = zk59 := rfl
theorem x59_0 {w : zWt} {d : Nat} {H : zHt} {K : Int → zHt → Prop} {l1 : Int}
    (h : zgo w d 59 5 [zR 36, zI l1, zL 1, zJ, zI 0] [] H (zQL K)) :
    zclL w d 59 [zR 36, zI l1] H K := by
  show zgo w d 59 0 [zR 36, zI l1, zJ, zJ, zJ] [] H (zQL K)
  refine g_lc zp59 rfl rfl ?_
  refine g_ls (ls' := [zR 36, zI l1, zL 1, zJ, zJ]) zp59 rfl rfl (Nat.le_of_ble_eq_true rfl) rfl ?_
  refine g_ic zp59 rfl rfl ?_
  refine g_is (ls' := [zR 36, zI l1, zL 1, zJ, zI 0]) zp59 rfl rfl (Nat.le_of_ble_eq_true rfl) rfl ?_
  exact g_weak (ls' := [zR 36, zI l1, zL 1, zJ, zI 0]) ⟨Or.inr rfl, Or.inr rfl, Or.inr rfl, Or.inr rfl, Or.inr rfl, trivial⟩ h
theorem x59_5 {w : zWt} {d : Nat} {H : zHt} {K : Int → zHt → Prop} {l1 : Int} {l2 : Int} {l4 : Int}
    (h : (0 ≤ l1 ∧ l1 < 9) ∧ ((H 38 l1) ≤ l4 → K l2 H) ∧ (l4 < (H 38 l1) → zgo w d 59 5 [zR 36, zI l1, zL (w64 ((w64 (l2 * (H 37 l1))) + 1)), zJ, zI (w32 (l4 + 1))] [] H (zQL K))) :
    zgo w d 59 5 [zR 36, zI l1, zL l2, zJ, zI l4] [] H (zQL K) := by
  refine g_il zp59 rfl rfl rfl ?_
  refine g_al zp59 rfl rfl rfl (by decide) ?_
  refine g_get (v := zR 38) zp59 rfl rfl rfl ⟨rfl, by decide, (by decide)⟩ rfl ?_
  refine g_il zp59 rfl rfl rfl ?_
  obtain ⟨c1, h⟩ := h
  refine g_ald (v := zI (H 38 l1)) zp59 rfl rfl rfl rfl c1 rfl ?_
  refine g_icmp zp59 rfl rfl zc3 (fun c2 => ?_) (fun c2 => ?_)
  · replace h := h.1 c2
    refine g_ll zp59 rfl rfl rfl ?_
    exact g_ret zp59 rfl rfl ⟨_, rfl, h⟩
  · replace h := h.2 c2
    refine g_ll zp59 rfl rfl rfl ?_
    refine g_al zp59 rfl rfl rfl (by decide) ?_
    refine g_get (v := zR 37) zp59 rfl rfl rfl ⟨rfl, by decide, (by decide)⟩ rfl ?_
    refine g_il zp59 rfl rfl rfl ?_
    refine g_ald (v := zI (H 37 l1)) zp59 rfl rfl rfl rfl c1 rfl ?_
    refine g_i2l zp59 rfl rfl ?_
    refine g_lar (r := w64 (l2 * (H 37 l1))) zp59 rfl rfl rfl ?_
    refine g_lc zp59 rfl rfl ?_
    refine g_lar (r := w64 ((w64 (l2 * (H 37 l1))) + 1)) zp59 rfl rfl rfl ?_
    refine g_ls (ls' := [zR 36, zI l1, zL (w64 ((w64 (l2 * (H 37 l1))) + 1)), zJ, zI l4]) zp59 rfl rfl (Nat.le_of_ble_eq_true rfl) rfl ?_
    refine g_inc (ls' := [zR 36, zI l1, zL (w64 ((w64 (l2 * (H 37 l1))) + 1)), zJ, zI (w32 (l4 + 1))]) zp59 rfl rfl rfl rfl ?_
    refine g_goto zp59 rfl ?_
    exact g_weak (ls' := [zR 36, zI l1, zL (w64 ((w64 (l2 * (H 37 l1))) + 1)), zJ, zI (w32 (l4 + 1))]) ⟨Or.inr rfl, Or.inr rfl, Or.inr rfl, Or.inr rfl, Or.inr rfl, trivial⟩ h
theorem zp60 : zprog.getD 60 [] = zk60 := rfl
theorem x60_0 {w : zWt} {d : Nat} {H : zHt} {K : Int → zHt → Prop} {l1 : Int}
    (h : K l1 (zup H 32 14 0)) :
    zclL w d 60 [zR 32, zL l1] H K := by
  show zgo w d 60 0 [zR 32, zL l1, zJ] [] H (zQL K)
  refine g_al zp60 rfl rfl rfl (by decide) ?_
  refine g_ic zp60 rfl rfl ?_
  refine g_putI zp60 rfl rfl rfl ⟨rfl, by decide, (by decide)⟩ rfl rfl ?_
  refine g_ll zp60 rfl rfl rfl ?_
  exact g_ret zp60 rfl rfl ⟨_, rfl, h⟩
theorem zp61 : zprog.getD 61 [] = zk61 := rfl
theorem x61_0 {w : zWt} {d : Nat} {H : zHt} {K : Int → zHt → Prop} {l1 : Int}
    (h : zclI w d 43 [zI l1] H (fun x2 H1 => (¬ x2 = 0 → zclI w d 62 [zR 32, zI (H1 40 4), zI l1] H1 (fun x5 H4 => zclI w d 39 [zR 32, zI x5] H4 (fun x7 H6 => K x7 H6))) ∧ (x2 = 0 → zclI w d 13 [zR 32, zI 1] H1 (fun x9 H8 => K x9 H8)))) :
    zclI w (d + 1) 61 [zR 32, zI l1] H K := by
  show zgo w (d + 1) 61 0 [zR 32, zI l1] [] H (zQI K)
  refine g_il zp61 rfl rfl rfl ?_
  refine g_callI (as := [zI l1]) (rest := []) zp61 rfl rfl (Nat.succ_pos _) rfl rfl (Nat.le_of_ble_eq_true rfl) (Nat.le_of_ble_eq_true rfl) rfl rfl h (fun x2 H1 h => ?_)
  refine g_if zp61 rfl rfl zc1 (fun c3 => ?_) (fun c3 => ?_)
  · replace h := h.1 c3
    refine g_al zp61 rfl rfl rfl (by decide) ?_
    refine g_al zp61 rfl rfl rfl (by decide) ?_
    refine g_al zp61 rfl rfl rfl (by decide) ?_
    refine g_get (v := zR 40) zp61 rfl rfl rfl ⟨rfl, by decide, (by decide)⟩ rfl ?_
    refine g_get (v := zI (H1 40 4)) zp61 rfl rfl rfl ⟨rfl, by decide, (by decide)⟩ rfl ?_
    refine g_il zp61 rfl rfl rfl ?_
    refine g_callI (as := [zR 32, zI (H1 40 4), zI l1]) (rest := [zR 32]) zp61 rfl rfl (Nat.succ_pos _) rfl rfl (Nat.le_of_ble_eq_true rfl) (Nat.le_of_ble_eq_true rfl) rfl rfl h (fun x5 H4 h => ?_)
    refine g_callI (as := [zR 32, zI x5]) (rest := []) zp61 rfl rfl (Nat.succ_pos _) rfl rfl (Nat.le_of_ble_eq_true rfl) (Nat.le_of_ble_eq_true rfl) rfl rfl h (fun x7 H6 h => ?_)
    exact g_ret zp61 rfl rfl ⟨_, rfl, h⟩
  · replace h := h.2 c3
    refine g_al zp61 rfl rfl rfl (by decide) ?_
    refine g_ic zp61 rfl rfl ?_
    refine g_callI (as := [zR 32, zI 1]) (rest := []) zp61 rfl rfl (Nat.succ_pos _) rfl rfl (Nat.le_of_ble_eq_true rfl) (Nat.le_of_ble_eq_true rfl) rfl rfl h (fun x9 H8 h => ?_)
    exact g_ret zp61 rfl rfl ⟨_, rfl, h⟩
theorem zp62 : zprog.getD 62 [] = zk62 := rfl
theorem x62_0 {w : zWt} {d : Nat} {H : zHt} {K : Int → zHt → Prop} {l1 : Int} {l2 : Int}
    (h : zclL w d 53 [zR 36, zI l1, zI l2] H (fun x2 H1 => (¬ x2 = l2 → (l2 ≤ x2 → K 2 H1) ∧ (x2 < l2 → K 0 H1)) ∧ (x2 = l2 → K 1 H1))) :
    zclI w (d + 1) 62 [zR 32, zI l1, zI l2] H K := by
  show zgo w (d + 1) 62 0 [zR 32, zI l1, zI l2, zJ, zJ] [] H (zQI K)
  refine g_al zp62 rfl rfl rfl (by decide) ?_
  refine g_get (v := zR 36) zp62 rfl rfl rfl ⟨rfl, by decide, (by decide)⟩ rfl ?_
  refine g_il zp62 rfl rfl rfl ?_
  refine g_il zp62 rfl rfl rfl ?_
  refine g_callL (as := [zR 36, zI l1, zI l2]) (rest := []) zp62 rfl rfl (Nat.succ_pos _) rfl rfl (Nat.le_of_ble_eq_true rfl) (Nat.le_of_ble_eq_true rfl) rfl rfl h (fun x2 H1 h => ?_)
  refine g_ls (ls' := [zR 32, zI l1, zI l2, zL x2, zJ]) zp62 rfl rfl (Nat.le_of_ble_eq_true rfl) rfl ?_
  refine g_ll zp62 rfl rfl rfl ?_
  refine g_il zp62 rfl rfl rfl ?_
  refine g_i2l zp62 rfl rfl ?_
  refine g_lcmp zp62 rfl rfl rfl rfl zc1 (fun c3 => ?_) (fun c3 => ?_)
  · replace h := h.1 c3
    refine g_ll zp62 rfl rfl rfl ?_
    refine g_il zp62 rfl rfl rfl ?_
    refine g_i2l zp62 rfl rfl ?_
    refine g_lcmp zp62 rfl rfl rfl rfl zc3 (fun c4 => ?_) (fun c4 => ?_)
    · replace h := h.1 c4
      refine g_ic zp62 rfl rfl ?_
      exact g_ret zp62 rfl rfl ⟨_, rfl, h⟩
    · replace h := h.2 c4
      refine g_ic zp62 rfl rfl ?_
      refine g_goto zp62 rfl ?_
      exact g_ret zp62 rfl rfl ⟨_, rfl, h⟩
  · replace h := h.2 c3
    refine g_ic zp62 rfl rfl ?_
    exact g_ret zp62 rfl rfl ⟨_, rfl, h⟩
theorem zp63 : zprog.getD 63 [] = zk63 := rfl
theorem x63_0 {w : zWt} {d : Nat} {H : zHt} {K : Int → zHt → Prop} {l1 : Int} {l2 : Int}
    (h : zclI w d 43 [zI l1] H (fun x2 H1 => (x2 = 0 → zclI w d 13 [zR 32, zI 1] H1 (fun x5 H4 => K x5 H4)) ∧ (¬ x2 = 0 → zclI w d 44 [zI l2, zI 3] H1 (fun x7 H6 => (¬ x7 = 0 → ((Int.tmod l1 2) = 0 → (l2 < 0 ∨ 3 ≤ l2 → zclI w d 68 [zR 32, zI l1] H6 (fun x11 H10 => (x11 = 0 → zclI w d 39 [zR 32, zI 0] H10 (fun x14 H13 => K x14 H13)) ∧ (¬ x11 = 0 → zclI w d 39 [zR 32, zI 1] H10 (fun x16 H15 => K x16 H15)))) ∧ (l2 = 0 → zclI w d 64 [zI l1] H6 (fun x18 H17 => zclI w d 39 [zR 32, zI x18] H17 (fun x20 H19 => K x20 H19))) ∧ (l2 = 1 → zclI w d 67 [zI l1] H6 (fun x22 H21 => zclI w d 39 [zR 32, zI x22] H21 (fun x24 H23 => K x24 H23))) ∧ (l2 = 2 → zclI w d 65 [zI l1] H6 (fun x26 H25 => zclI w d 39 [zR 32, zI x26] H25 (fun x28 H27 => K x28 H27)))) ∧ (¬ (Int.tmod l1 2) = 0 → zclI w d 13 [zR 32, zI 5] H6 (fun x30 H29 => K x30 H29))) ∧ (x7 = 0 → zclI w d 13 [zR 32, zI 1] H6 (fun x32 H31 => K x32 H31)))))) :
    zclI w (d + 1) 63 [zR 32, zI l1, zI l2] H K := by
  show zgo w (d + 1) 63 0 [zR 32, zI l1, zI l2] [] H (zQI K)
  refine g_il zp63 rfl rfl rfl ?_
  refine g_callI (as := [zI l1]) (rest := []) zp63 rfl rfl (Nat.succ_pos _) rfl rfl (Nat.le_of_ble_eq_true rfl) (Nat.le_of_ble_eq_true rfl) rfl rfl h (fun x2 H1 h => ?_)
  refine g_if zp63 rfl rfl zc0 (fun c3 => ?_) (fun c3 => ?_)
  · replace h := h.1 c3
    refine g_al zp63 rfl rfl rfl (by decide) ?_
    refine g_ic zp63 rfl rfl ?_
    refine g_callI (as := [zR 32, zI 1]) (rest := []) zp63 rfl rfl (Nat.succ_pos _) rfl rfl (Nat.le_of_ble_eq_true rfl) (Nat.le_of_ble_eq_true rfl) rfl rfl h (fun x5 H4 h => ?_)
    exact g_ret zp63 rfl rfl ⟨_, rfl, h⟩
  · replace h := h.2 c3
    refine g_il zp63 rfl rfl rfl ?_
    refine g_ic zp63 rfl rfl ?_
    refine g_callI (as := [zI l2, zI 3]) (rest := []) zp63 rfl rfl (Nat.succ_pos _) rfl rfl (Nat.le_of_ble_eq_true rfl) (Nat.le_of_ble_eq_true rfl) rfl rfl h (fun x7 H6 h => ?_)
    refine g_if zp63 rfl rfl zc1 (fun c8 => ?_) (fun c8 => ?_)
    · replace h := h.1 c8
      refine g_il zp63 rfl rfl rfl ?_
      refine g_ic zp63 rfl rfl ?_
      refine g_ar (r := Int.tmod l1 2) zp63 rfl rfl (zr_rem (by decide)) ?_
      refine g_if zp63 rfl rfl zc0 (fun c9 => ?_) (fun c9 => ?_)
      · replace h := h.1 c9
        refine g_il zp63 rfl rfl rfl ?_
        rcases Classical.em (l2 < 0 ∨ 3 ≤ l2) with c | c
        · refine g_tabO zp63 rfl c ?_
          replace h := h.1 c
          refine g_al zp63 rfl rfl rfl (by decide) ?_
          refine g_al zp63 rfl rfl rfl (by decide) ?_
          refine g_il zp63 rfl rfl rfl ?_
          refine g_callI (as := [zR 32, zI l1]) (rest := [zR 32]) zp63 rfl rfl (Nat.succ_pos _) rfl rfl (Nat.le_of_ble_eq_true rfl) (Nat.le_of_ble_eq_true rfl) rfl rfl h (fun x11 H10 h => ?_)
          refine g_if zp63 rfl rfl zc0 (fun c12 => ?_) (fun c12 => ?_)
          · replace h := h.1 c12
            refine g_ic zp63 rfl rfl ?_
            refine g_callI (as := [zR 32, zI 0]) (rest := []) zp63 rfl rfl (Nat.succ_pos _) rfl rfl (Nat.le_of_ble_eq_true rfl) (Nat.le_of_ble_eq_true rfl) rfl rfl h (fun x14 H13 h => ?_)
            exact g_ret zp63 rfl rfl ⟨_, rfl, h⟩
          · replace h := h.2 c12
            refine g_ic zp63 rfl rfl ?_
            refine g_goto zp63 rfl ?_
            refine g_callI (as := [zR 32, zI 1]) (rest := []) zp63 rfl rfl (Nat.succ_pos _) rfl rfl (Nat.le_of_ble_eq_true rfl) (Nat.le_of_ble_eq_true rfl) rfl rfl h (fun x16 H15 h => ?_)
            exact g_ret zp63 rfl rfl ⟨_, rfl, h⟩
        · replace h := h.2
          have hh : l2 = 0 ∨ l2 = 1 ∨ l2 = 2 := by omega
          rcases hh with c | c | c
          · replace h := h.1 c
            refine g_tabE (z := 0) zp63 rfl c (by decide) rfl ?_
            refine g_al zp63 rfl rfl rfl (by decide) ?_
            refine g_il zp63 rfl rfl rfl ?_
            refine g_callI (as := [zI l1]) (rest := [zR 32]) zp63 rfl rfl (Nat.succ_pos _) rfl rfl (Nat.le_of_ble_eq_true rfl) (Nat.le_of_ble_eq_true rfl) rfl rfl h (fun x18 H17 h => ?_)
            refine g_callI (as := [zR 32, zI x18]) (rest := []) zp63 rfl rfl (Nat.succ_pos _) rfl rfl (Nat.le_of_ble_eq_true rfl) (Nat.le_of_ble_eq_true rfl) rfl rfl h (fun x20 H19 h => ?_)
            exact g_ret zp63 rfl rfl ⟨_, rfl, h⟩
          · replace h := h.2.1 c
            refine g_tabE (z := 1) zp63 rfl c (by decide) rfl ?_
            refine g_al zp63 rfl rfl rfl (by decide) ?_
            refine g_il zp63 rfl rfl rfl ?_
            refine g_callI (as := [zI l1]) (rest := [zR 32]) zp63 rfl rfl (Nat.succ_pos _) rfl rfl (Nat.le_of_ble_eq_true rfl) (Nat.le_of_ble_eq_true rfl) rfl rfl h (fun x22 H21 h => ?_)
            refine g_callI (as := [zR 32, zI x22]) (rest := []) zp63 rfl rfl (Nat.succ_pos _) rfl rfl (Nat.le_of_ble_eq_true rfl) (Nat.le_of_ble_eq_true rfl) rfl rfl h (fun x24 H23 h => ?_)
            exact g_ret zp63 rfl rfl ⟨_, rfl, h⟩
          · replace h := h.2.2 c
            refine g_tabE (z := 2) zp63 rfl c (by decide) rfl ?_
            refine g_al zp63 rfl rfl rfl (by decide) ?_
            refine g_il zp63 rfl rfl rfl ?_
            refine g_callI (as := [zI l1]) (rest := [zR 32]) zp63 rfl rfl (Nat.succ_pos _) rfl rfl (Nat.le_of_ble_eq_true rfl) (Nat.le_of_ble_eq_true rfl) rfl rfl h (fun x26 H25 h => ?_)
            refine g_callI (as := [zR 32, zI x26]) (rest := []) zp63 rfl rfl (Nat.succ_pos _) rfl rfl (Nat.le_of_ble_eq_true rfl) (Nat.le_of_ble_eq_true rfl) rfl rfl h (fun x28 H27 h => ?_)
            exact g_ret zp63 rfl rfl ⟨_, rfl, h⟩
      · replace h := h.2 c9
        refine g_al zp63 rfl rfl rfl (by decide) ?_
        refine g_ic zp63 rfl rfl ?_
        refine g_callI (as := [zR 32, zI 5]) (rest := []) zp63 rfl rfl (Nat.succ_pos _) rfl rfl (Nat.le_of_ble_eq_true rfl) (Nat.le_of_ble_eq_true rfl) rfl rfl h (fun x30 H29 h => ?_)
        exact g_ret zp63 rfl rfl ⟨_, rfl, h⟩
    · replace h := h.2 c8
      refine g_al zp63 rfl rfl rfl (by decide) ?_
      refine g_ic zp63 rfl rfl ?_
      refine g_callI (as := [zR 32, zI 1]) (rest := []) zp63 rfl rfl (Nat.succ_pos _) rfl rfl (Nat.le_of_ble_eq_true rfl) (Nat.le_of_ble_eq_true rfl) rfl rfl h (fun x32 H31 h => ?_)
      exact g_ret zp63 rfl rfl ⟨_, rfl, h⟩
theorem zp64 : zprog.getD 64 [] = zk64 := rfl
theorem x64_0 {w : zWt} {d : Nat} {H : zHt} {K : Int → zHt → Prop} {l0 : Int}
    (h : (l0 < 1 → K 0 H) ∧ (1 ≤ l0 → ((Int.tmod l0 2) = 0 → zclI w d 65 [zI l0] H (fun x4 H3 => K (w32 ((zand l0 (w32 (-l0))) * x4)) H3)) ∧ (¬ (Int.tmod l0 2) = 0 → K 0 H))) :
    zclI w (d + 1) 64 [zI l0] H K := by
  show zgo w (d + 1) 64 0 [zI l0] [] H (zQI K)
  refine g_il zp64 rfl rfl rfl ?_
  refine g_ic zp64 rfl rfl ?_
  refine g_icmp zp64 rfl rfl zc2 (fun c1 => ?_) (fun c1 => ?_)
  · replace h := h.1 c1
    refine g_ic zp64 rfl rfl ?_
    exact g_ret zp64 rfl rfl ⟨_, rfl, h⟩
  · replace h := h.2 c1
    refine g_il zp64 rfl rfl rfl ?_
    refine g_ic zp64 rfl rfl ?_
    refine g_ar (r := Int.tmod l0 2) zp64 rfl rfl (zr_rem (by decide)) ?_
    refine g_if zp64 rfl rfl zc0 (fun c2 => ?_) (fun c2 => ?_)
    · replace h := h.1 c2
      refine g_il zp64 rfl rfl rfl ?_
      refine g_il zp64 rfl rfl rfl ?_
      refine g_neg zp64 rfl rfl ?_
      refine g_ar (r := zand l0 (w32 (-l0))) zp64 rfl rfl rfl ?_
      refine g_il zp64 rfl rfl rfl ?_
      refine g_callI (as := [zI l0]) (rest := [zI (zand l0 (w32 (-l0)))]) zp64 rfl rfl (Nat.succ_pos _) rfl rfl (Nat.le_of_ble_eq_true rfl) (Nat.le_of_ble_eq_true rfl) rfl rfl h (fun x4 H3 h => ?_)
      refine g_ar (r := w32 ((zand l0 (w32 (-l0))) * x4)) zp64 rfl rfl rfl ?_
      exact g_ret zp64 rfl rfl ⟨_, rfl, h⟩
    · replace h := h.2 c2
      refine g_ic zp64 rfl rfl ?_
      exact g_ret zp64 rfl rfl ⟨_, rfl, h⟩
theorem zp65 : zprog.getD 65 [] = zk65 := rfl
theorem x65_0 {w : zWt} {d : Nat} {H : zHt} {K : Int → zHt → Prop} {l0 : Int}
    (h : zclL w d 66 [zL (w32 ((w32 (2 * (zand l0 (w32 (-l0))))) - 1)), zL l0] H (fun x2 H1 => K (w32 x2) H1)) :
    zclI w (d + 1) 65 [zI l0] H K := by
  show zgo w (d + 1) 65 0 [zI l0, zJ] [] H (zQI K)
  refine g_il zp65 rfl rfl rfl ?_
  refine g_il zp65 rfl rfl rfl ?_
  refine g_neg zp65 rfl rfl ?_
  refine g_ar (r := zand l0 (w32 (-l0))) zp65 rfl rfl rfl ?_
  refine g_is (ls' := [zI l0, zI (zand l0 (w32 (-l0)))]) zp65 rfl rfl (Nat.le_of_ble_eq_true rfl) rfl ?_
  refine g_ic zp65 rfl rfl ?_
  refine g_il zp65 rfl rfl rfl ?_
  refine g_ar (r := w32 (2 * (zand l0 (w32 (-l0))))) zp65 rfl rfl rfl ?_
  refine g_ic zp65 rfl rfl ?_
  refine g_ar (r := w32 ((w32 (2 * (zand l0 (w32 (-l0))))) - 1)) zp65 rfl rfl rfl ?_
  refine g_i2l zp65 rfl rfl ?_
  refine g_il zp65 rfl rfl rfl ?_
  refine g_i2l zp65 rfl rfl ?_
  refine g_callL (as := [zL (w32 ((w32 (2 * (zand l0 (w32 (-l0))))) - 1)), zL l0]) (rest := []) zp65 rfl rfl (Nat.succ_pos _) rfl rfl (Nat.le_of_ble_eq_true rfl) (Nat.le_of_ble_eq_true rfl) rfl rfl h (fun x2 H1 h => ?_)
  refine g_l2i zp65 rfl rfl ?_
  exact g_ret zp65 rfl rfl ⟨_, rfl, h⟩
theorem zp66 : zprog.getD 66 [] = zk66 := rfl
theorem x66_0 {w : zWt} {d : Nat} {H : zHt} {K : Int → zHt → Prop} {l0 : Int} {l2 : Int}
    (h : zgo w d 66 9 [zJ, zJ, zJ, zJ, zL l0, zJ, zL l2, zJ, zI 0, zJ, zJ] [] H (zQL K)) :
    zclL w d 66 [zL l0, zL l2] H K := by
  show zgo w d 66 0 [zL l0, zJ, zL l2, zJ, zJ, zJ, zJ, zJ, zJ, zJ, zJ] [] H (zQL K)
  refine g_ll zp66 rfl rfl rfl ?_
  refine g_ls (ls' := [zL l0, zJ, zL l2, zJ, zL l0, zJ, zJ, zJ, zJ, zJ, zJ]) zp66 rfl rfl (Nat.le_of_ble_eq_true rfl) rfl ?_
  refine g_ll zp66 rfl rfl rfl ?_
  refine g_ls (ls' := [zL l0, zJ, zL l2, zJ, zL l0, zJ, zL l2, zJ, zJ, zJ, zJ]) zp66 rfl rfl (Nat.le_of_ble_eq_true rfl) rfl ?_
  refine g_ic zp66 rfl rfl ?_
  refine g_is (ls' := [zL l0, zJ, zL l2, zJ, zL l0, zJ, zL l2, zJ, zI 0, zJ, zJ]) zp66 rfl rfl (Nat.le_of_ble_eq_true rfl) rfl ?_
  exact g_weak (ls' := [zJ, zJ, zJ, zJ, zL l0, zJ, zL l2, zJ, zI 0, zJ, zJ]) ⟨Or.inl rfl, Or.inr rfl, Or.inl rfl, Or.inr rfl, Or.inr rfl, Or.inr rfl, Or.inr rfl, Or.inr rfl, Or.inr rfl, Or.inr rfl, Or.inr rfl, trivial⟩ h
theorem x66_9 {w : zWt} {d : Nat} {H : zHt} {K : Int → zHt → Prop} {l4 : Int} {l6 : Int} {l8 : Int}
    (h : (100 ≤ l8 → K (if l4 < 1 then 1 else l4) H) ∧ (l8 < 100 → (l6 = 0 → K (if l4 < 1 then 1 else l4) H) ∧ (¬ l6 = 0 → (l6 ≠ 0) ∧ zgo w d 66 9 [zJ, zJ, zJ, zJ, zL l6, zJ, zL (Int.tmod l4 l6), zJ, zI (w32 (l8 + 1)), zJ, zJ] [] H (zQL K)))) :
    zgo w d 66 9 [zJ, zJ, zJ, zJ, zL l4, zJ, zL l6, zJ, zI l8, zJ, zJ] [] H (zQL K) := by
  refine g_il zp66 rfl rfl rfl ?_
  refine g_ic zp66 rfl rfl ?_
  refine g_icmp zp66 rfl rfl zc3 (fun c1 => ?_) (fun c1 => ?_)
  · replace h := h.1 c1
    refine g_lc zp66 rfl rfl ?_
    refine g_ll zp66 rfl rfl rfl ?_
    refine g_mmaxL zp66 rfl rfl (Nat.le_of_ble_eq_true rfl) ?_
    exact g_ret zp66 rfl rfl ⟨_, rfl, h⟩
  · replace h := h.2 c1
    refine g_ll zp66 rfl rfl rfl ?_
    refine g_lc zp66 rfl rfl ?_
    refine g_lcmp zp66 rfl rfl rfl rfl zc0 (fun c2 => ?_) (fun c2 => ?_)
    · replace h := h.1 c2
      refine g_lc zp66 rfl rfl ?_
      refine g_ll zp66 rfl rfl rfl ?_
      refine g_mmaxL zp66 rfl rfl (Nat.le_of_ble_eq_true rfl) ?_
      exact g_ret zp66 rfl rfl ⟨_, rfl, h⟩
    · replace h := h.2 c2
      refine g_ll zp66 rfl rfl rfl ?_
      refine g_ll zp66 rfl rfl rfl ?_
      obtain ⟨c3, h⟩ := h
      refine g_lar (r := Int.tmod l4 l6) zp66 rfl rfl (zr_lrem c3) ?_
      refine g_ls (ls' := [zJ, zJ, zJ, zJ, zL l4, zJ, zL l6, zJ, zI l8, zL (Int.tmod l4 l6), zJ]) zp66 rfl rfl (Nat.le_of_ble_eq_true rfl) rfl ?_
      refine g_ll zp66 rfl rfl rfl ?_
      refine g_ls (ls' := [zJ, zJ, zJ, zJ, zL l6, zJ, zL l6, zJ, zI l8, zL (Int.tmod l4 l6), zJ]) zp66 rfl rfl (Nat.le_of_ble_eq_true rfl) rfl ?_
      refine g_ll zp66 rfl rfl rfl ?_
      refine g_ls (ls' := [zJ, zJ, zJ, zJ, zL l6, zJ, zL (Int.tmod l4 l6), zJ, zI l8, zL (Int.tmod l4 l6), zJ]) zp66 rfl rfl (Nat.le_of_ble_eq_true rfl) rfl ?_
      refine g_inc (ls' := [zJ, zJ, zJ, zJ, zL l6, zJ, zL (Int.tmod l4 l6), zJ, zI (w32 (l8 + 1)), zL (Int.tmod l4 l6), zJ]) zp66 rfl rfl rfl rfl ?_
      refine g_goto zp66 rfl ?_
      exact g_weak (ls' := [zJ, zJ, zJ, zJ, zL l6, zJ, zL (Int.tmod l4 l6), zJ, zI (w32 (l8 + 1)), zJ, zJ]) ⟨Or.inr rfl, Or.inr rfl, Or.inr rfl, Or.inr rfl, Or.inr rfl, Or.inr rfl, Or.inr rfl, Or.inr rfl, Or.inr rfl, Or.inl rfl, Or.inr rfl, trivial⟩ h
theorem zp67 : zprog.getD 67 [] = zk67 := rfl
theorem x67_0 {w : zWt} {d : Nat} {H : zHt} {K : Int → zHt → Prop} {l0 : Int}
    (h : zgo w d 67 4 [zJ, zI 0, zI l0] [] H (zQI K)) :
    zclI w d 67 [zI l0] H K := by
  show zgo w d 67 0 [zI l0, zJ, zJ] [] H (zQI K)
  refine g_ic zp67 rfl rfl ?_
  refine g_is (ls' := [zI l0, zI 0, zJ]) zp67 rfl rfl (Nat.le_of_ble_eq_true rfl) rfl ?_
  refine g_il zp67 rfl rfl rfl ?_
  refine g_is (ls' := [zI l0, zI 0, zI l0]) zp67 rfl rfl (Nat.le_of_ble_eq_true rfl) rfl ?_
  exact g_weak (ls' := [zJ, zI 0, zI l0]) ⟨Or.inl rfl, Or.inr rfl, Or.inr rfl, trivial⟩ h
theorem x67_4 {w : zWt} {d : Nat} {H : zHt} {K : Int → zHt → Prop} {l1 : Int} {l2 : Int}
    (h : (l2 ≤ 0 → K l1 H) ∧ (0 < l2 → (¬ (Int.tmod l2 2) = 0 → K l1 H) ∧ ((Int.tmod l2 2) = 0 → zgo w d 67 4 [zJ, zI (w32 (l1 + 1)), zI (w32 (Int.tdiv l2 2))] [] H (zQI K)))) :
    zgo w d 67 4 [zJ, zI l1, zI l2] [] H (zQI K) := by
  refine g_il zp67 rfl rfl rfl ?_
  refine g_if zp67 rfl rfl zc5 (fun c1 => ?_) (fun c1 => ?_)
  · replace h := h.1 c1
    refine g_il zp67 rfl rfl rfl ?_
    exact g_ret zp67 rfl rfl ⟨_, rfl, h⟩
  · replace h := h.2 c1
    refine g_il zp67 rfl rfl rfl ?_
    refine g_ic zp67 rfl rfl ?_
    refine g_ar (r := Int.tmod l2 2) zp67 rfl rfl (zr_rem (by decide)) ?_
    refine g_if zp67 rfl rfl zc1 (fun c2 => ?_) (fun c2 => ?_)
    · replace h := h.1 c2
      refine g_il zp67 rfl rfl rfl ?_
      exact g_ret zp67 rfl rfl ⟨_, rfl, h⟩
    · replace h := h.2 c2
      refine g_inc (ls' := [zJ, zI (w32 (l1 + 1)), zI l2]) zp67 rfl rfl rfl rfl ?_
      refine g_il zp67 rfl rfl rfl ?_
      refine g_ic zp67 rfl rfl ?_
      refine g_ar (r := w32 (Int.tdiv l2 2)) zp67 rfl rfl (zr_div (by decide)) ?_
      refine g_is (ls' := [zJ, zI (w32 (l1 + 1)), zI (w32 (Int.tdiv l2 2))]) zp67 rfl rfl (Nat.le_of_ble_eq_true rfl) rfl ?_
      refine g_goto zp67 rfl ?_
      exact g_weak (ls' := [zJ, zI (w32 (l1 + 1)), zI (w32 (Int.tdiv l2 2))]) ⟨Or.inr rfl, Or.inr rfl, Or.inr rfl, trivial⟩ h
theorem zp68 : zprog.getD 68 [] = zk68 := rfl
theorem x68_0 {w : zWt} {d : Nat} {H : zHt} {K : Int → zHt → Prop} {l1 : Int}
    (h : zclI w d 64 [zI l1] H (fun x2 H1 => (¬ x2 = 0 → zclI w d 65 [zI l1] H1 (fun x5 H4 => zclL w d 69 [zR 36, zI x5] H4 (fun x7 H6 => ((if 1 < w32 (Int.tdiv (zand l1 (w32 (-l1))) 2) then w32 (Int.tdiv (zand l1 (w32 (-l1))) 2) else 1) ≠ 0) ∧ (¬ (Int.tmod x7 (if 1 < w32 (Int.tdiv (zand l1 (w32 (-l1))) 2) then w32 (Int.tdiv (zand l1 (w32 (-l1))) 2) else 1)) = 0 → K 0 H6) ∧ ((Int.tmod x7 (if 1 < w32 (Int.tdiv (zand l1 (w32 (-l1))) 2) then w32 (Int.tdiv (zand l1 (w32 (-l1))) 2) else 1)) = 0 → K 1 H6)))) ∧ (x2 = 0 → K 0 H1))) :
    zclI w (d + 1) 68 [zR 32, zI l1] H K := by
  show zgo w (d + 1) 68 0 [zR 32, zI l1, zJ] [] H (zQI K)
  refine g_il zp68 rfl rfl rfl ?_
  refine g_callI (as := [zI l1]) (rest := []) zp68 rfl rfl (Nat.succ_pos _) rfl rfl (Nat.le_of_ble_eq_true rfl) (Nat.le_of_ble_eq_true rfl) rfl rfl h (fun x2 H1 h => ?_)
  refine g_if zp68 rfl rfl zc1 (fun c3 => ?_) (fun c3 => ?_)
  · replace h := h.1 c3
    refine g_ic zp68 rfl rfl ?_
    refine g_il zp68 rfl rfl rfl ?_
    refine g_il zp68 rfl rfl rfl ?_
    refine g_neg zp68 rfl rfl ?_
    refine g_ar (r := zand l1 (w32 (-l1))) zp68 rfl rfl rfl ?_
    refine g_ic zp68 rfl rfl ?_
    refine g_ar (r := w32 (Int.tdiv (zand l1 (w32 (-l1))) 2)) zp68 rfl rfl (zr_div (by decide)) ?_
    refine g_mmax zp68 rfl rfl (Nat.le_of_ble_eq_true rfl) ?_
    refine g_is (ls' := [zR 32, zI l1, zI (if 1 < w32 (Int.tdiv (zand l1 (w32 (-l1))) 2) then w32 (Int.tdiv (zand l1 (w32 (-l1))) 2) else 1)]) zp68 rfl rfl (Nat.le_of_ble_eq_true rfl) rfl ?_
    refine g_al zp68 rfl rfl rfl (by decide) ?_
    refine g_get (v := zR 36) zp68 rfl rfl rfl ⟨rfl, by decide, (by decide)⟩ rfl ?_
    refine g_il zp68 rfl rfl rfl ?_
    refine g_callI (as := [zI l1]) (rest := [zR 36]) zp68 rfl rfl (Nat.succ_pos _) rfl rfl (Nat.le_of_ble_eq_true rfl) (Nat.le_of_ble_eq_true rfl) rfl rfl h (fun x5 H4 h => ?_)
    refine g_callL (as := [zR 36, zI x5]) (rest := []) zp68 rfl rfl (Nat.succ_pos _) rfl rfl (Nat.le_of_ble_eq_true rfl) (Nat.le_of_ble_eq_true rfl) rfl rfl h (fun x7 H6 h => ?_)
    refine g_il zp68 rfl rfl rfl ?_
    refine g_i2l zp68 rfl rfl ?_
    obtain ⟨c8, h⟩ := h
    refine g_lar (r := Int.tmod x7 (if 1 < w32 (Int.tdiv (zand l1 (w32 (-l1))) 2) then w32 (Int.tdiv (zand l1 (w32 (-l1))) 2) else 1)) zp68 rfl rfl (zr_lrem c8) ?_
    refine g_lc zp68 rfl rfl ?_
    refine g_lcmp zp68 rfl rfl rfl rfl zc1 (fun c9 => ?_) (fun c9 => ?_)
    · replace h := h.1 c9
      refine g_ic zp68 rfl rfl ?_
      exact g_ret zp68 rfl (zret_b (by decide)) ⟨_, rfl, h⟩
    · replace h := h.2 c9
      refine g_ic zp68 rfl rfl ?_
      refine g_goto zp68 rfl ?_
      exact g_ret zp68 rfl (zret_b (by decide)) ⟨_, rfl, h⟩
  · replace h := h.2 c3
    refine g_ic zp68 rfl rfl ?_
    exact g_ret zp68 rfl (zret_b (by decide)) ⟨_, rfl, h⟩
theorem zp69 : zprog.getD 69 [] = zk69 := rfl
theorem x69_0 {w : zWt} {d : Nat} {H : zHt} {K : Int → zHt → Prop} {l1 : Int}
    (h : zclV w d 45 [zR 36, zI l1] H (fun H1 => zclL w d 58 [zR 36] H1 (fun x4 H3 => K x4 H3))) :
    zclL w (d + 1) 69 [zR 36, zI l1] H K := by
  show zgo w (d + 1) 69 0 [zR 36, zI l1] [] H (zQL K)
  refine g_al zp69 rfl rfl rfl (by decide) ?_
  refine g_il zp69 rfl rfl rfl ?_
  refine g_callV (as := [zR 36, zI l1]) (rest := []) zp69 rfl rfl (Nat.succ_pos _) rfl rfl (Nat.le_of_ble_eq_true rfl) (Nat.le_of_ble_eq_true rfl) rfl rfl h (fun H1 h => ?_)
  refine g_al zp69 rfl rfl rfl (by decide) ?_
  refine g_callL (as := [zR 36]) (rest := []) zp69 rfl rfl (Nat.succ_pos _) rfl rfl (Nat.le_of_ble_eq_true rfl) (Nat.le_of_ble_eq_true rfl) rfl rfl h (fun x4 H3 h => ?_)
  exact g_ret zp69 rfl rfl ⟨_, rfl, h⟩
theorem zp70 : zprog.getD 70 [] = zk70 := rfl
theorem x70_0 {w : zWt} {d : Nat} {H : zHt} {K : Int → zHt → Prop} {l1 : Int} {l2 : Int}
    (h : zclI w d 43 [zI l1] H (fun x2 H1 => (x2 = 0 → zclI w d 13 [zR 32, zI 1] H1 (fun x5 H4 => K x5 H4)) ∧ (¬ x2 = 0 → ((-1) ≤ l2 → zclI w d 71 [zR 36, zI l1] H1 (fun x8 H7 => (¬ l2 = (-1) → (l2 < x8 → (x8 ≤ (w32 (2 * l2)) → zclI w d 72 [zI l1, zI (w32 ((w32 (x8 - 1)) - l2))] H7 (fun x13 H12 => ((if 1 < x13 then x13 else 1) ≠ 0) ∧ zclI w d 39 [zR 32, zI (w32 (Int.tdiv l1 (if 1 < x13 then x13 else 1)))] H12 (fun x16 H15 => K x16 H15))) ∧ ((w32 (2 * l2)) < x8 → zclI w d 72 [zI l1, zI l2] H7 (fun x18 H17 => zclI w d 39 [zR 32, zI x18] H17 (fun x20 H19 => K x20 H19)))) ∧ (x8 ≤ l2 → zclI w d 13 [zR 32, zI 5] H7 (fun x22 H21 => K x22 H21))) ∧ (l2 = (-1) → zclI w d 39 [zR 32, zI x8] H7 (fun x24 H23 => K x24 H23)))) ∧ (l2 < (-1) → zclI w d 13 [zR 32, zI 1] H1 (fun x26 H25 => K x26 H25))))) :
    zclI w (d + 1) 70 [zR 32, zI l1, zI l2] H K := by
  show zgo w (d + 1) 70 0 [zR 32, zI l1, zI l2, zJ] [] H (zQI K)
  refine g_il zp70 rfl rfl rfl ?_
  refine g_callI (as := [zI l1]) (rest := []) zp70 rfl rfl (Nat.succ_pos _) rfl rfl (Nat.le_of_ble_eq_true rfl) (Nat.le_of_ble_eq_true rfl) rfl rfl h (fun x2 H1 h => ?_)
  refine g_if zp70 rfl rfl zc0 (fun c3 => ?_) (fun c3 => ?_)
  · replace h := h.1 c3
    refine g_al zp70 rfl rfl rfl (by decide) ?_
    refine g_ic zp70 rfl rfl ?_
    refine g_callI (as := [zR 32, zI 1]) (rest := []) zp70 rfl rfl (Nat.succ_pos _) rfl rfl (Nat.le_of_ble_eq_true rfl) (Nat.le_of_ble_eq_true rfl) rfl rfl h (fun x5 H4 h => ?_)
    exact g_ret zp70 rfl rfl ⟨_, rfl, h⟩
  · replace h := h.2 c3
    refine g_il zp70 rfl rfl rfl ?_
    refine g_ic zp70 rfl rfl ?_
    refine g_icmp zp70 rfl rfl zc3 (fun c6 => ?_) (fun c6 => ?_)
    · replace h := h.1 c6
      refine g_al zp70 rfl rfl rfl (by decide) ?_
      refine g_get (v := zR 36) zp70 rfl rfl rfl ⟨rfl, by decide, (by decide)⟩ rfl ?_
      refine g_il zp70 rfl rfl rfl ?_
      refine g_callI (as := [zR 36, zI l1]) (rest := []) zp70 rfl rfl (Nat.succ_pos _) rfl rfl (Nat.le_of_ble_eq_true rfl) (Nat.le_of_ble_eq_true rfl) rfl rfl h (fun x8 H7 h => ?_)
      refine g_is (ls' := [zR 32, zI l1, zI l2, zI x8]) zp70 rfl rfl (Nat.le_of_ble_eq_true rfl) rfl ?_
      refine g_il zp70 rfl rfl rfl ?_
      refine g_ic zp70 rfl rfl ?_
      refine g_icmp zp70 rfl rfl zc1 (fun c9 => ?_) (fun c9 => ?_)
      · replace h := h.1 c9
        refine g_il zp70 rfl rfl rfl ?_
        refine g_il zp70 rfl rfl rfl ?_
        refine g_icmp zp70 rfl rfl zc2 (fun c10 => ?_) (fun c10 => ?_)
        · replace h := h.1 c10
          refine g_ic zp70 rfl rfl ?_
          refine g_il zp70 rfl rfl rfl ?_
          refine g_ar (r := w32 (2 * l2)) zp70 rfl rfl rfl ?_
          refine g_il zp70 rfl rfl rfl ?_
          refine g_icmp zp70 rfl rfl zc3 (fun c11 => ?_) (fun c11 => ?_)
          · replace h := h.1 c11
            refine g_al zp70 rfl rfl rfl (by decide) ?_
            refine g_il zp70 rfl rfl rfl ?_
            refine g_ic zp70 rfl rfl ?_
            refine g_il zp70 rfl rfl rfl ?_
            refine g_il zp70 rfl rfl rfl ?_
            refine g_ic zp70 rfl rfl ?_
            refine g_ar (r := w32 (x8 - 1)) zp70 rfl rfl rfl ?_
            refine g_il zp70 rfl rfl rfl ?_
            refine g_ar (r := w32 ((w32 (x8 - 1)) - l2)) zp70 rfl rfl rfl ?_
            refine g_callI (as := [zI l1, zI (w32 ((w32 (x8 - 1)) - l2))]) (rest := [zI 1, zI l1, zR 32]) zp70 rfl rfl (Nat.succ_pos _) rfl rfl (Nat.le_of_ble_eq_true rfl) (Nat.le_of_ble_eq_true rfl) rfl rfl h (fun x13 H12 h => ?_)
            refine g_mmax zp70 rfl rfl (Nat.le_of_ble_eq_true rfl) ?_
            obtain ⟨c14, h⟩ := h
            refine g_ar (r := w32 (Int.tdiv l1 (if 1 < x13 then x13 else 1))) zp70 rfl rfl (zr_div c14) ?_
            refine g_callI (as := [zR 32, zI (w32 (Int.tdiv l1 (if 1 < x13 then x13 else 1)))]) (rest := []) zp70 rfl rfl (Nat.succ_pos _) rfl rfl (Nat.le_of_ble_eq_true rfl) (Nat.le_of_ble_eq_true rfl) rfl rfl h (fun x16 H15 h => ?_)
            exact g_ret zp70 rfl rfl ⟨_, rfl, h⟩
          · replace h := h.2 c11
            refine g_al zp70 rfl rfl rfl (by decide) ?_
            refine g_il zp70 rfl rfl rfl ?_
            refine g_il zp70 rfl rfl rfl ?_
            refine g_callI (as := [zI l1, zI l2]) (rest := [zR 32]) zp70 rfl rfl (Nat.succ_pos _) rfl rfl (Nat.le_of_ble_eq_true rfl) (Nat.le_of_ble_eq_true rfl) rfl rfl h (fun x18 H17 h => ?_)
            refine g_callI (as := [zR 32, zI x18]) (rest := []) zp70 rfl rfl (Nat.succ_pos _) rfl rfl (Nat.le_of_ble_eq_true rfl) (Nat.le_of_ble_eq_true rfl) rfl rfl h (fun x20 H19 h => ?_)
            exact g_ret zp70 rfl rfl ⟨_, rfl, h⟩
        · replace h := h.2 c10
          refine g_al zp70 rfl rfl rfl (by decide) ?_
          refine g_ic zp70 rfl rfl ?_
          refine g_callI (as := [zR 32, zI 5]) (rest := []) zp70 rfl rfl (Nat.succ_pos _) rfl rfl (Nat.le_of_ble_eq_true rfl) (Nat.le_of_ble_eq_true rfl) rfl rfl h (fun x22 H21 h => ?_)
          exact g_ret zp70 rfl rfl ⟨_, rfl, h⟩
      · replace h := h.2 c9
        refine g_al zp70 rfl rfl rfl (by decide) ?_
        refine g_il zp70 rfl rfl rfl ?_
        refine g_callI (as := [zR 32, zI x8]) (rest := []) zp70 rfl rfl (Nat.succ_pos _) rfl rfl (Nat.le_of_ble_eq_true rfl) (Nat.le_of_ble_eq_true rfl) rfl rfl h (fun x24 H23 h => ?_)
        exact g_ret zp70 rfl rfl ⟨_, rfl, h⟩
    · replace h := h.2 c6
      refine g_al zp70 rfl rfl rfl (by decide) ?_
      refine g_ic zp70 rfl rfl ?_
      refine g_callI (as := [zR 32, zI 1]) (rest := []) zp70 rfl rfl (Nat.succ_pos _) rfl rfl (Nat.le_of_ble_eq_true rfl) (Nat.le_of_ble_eq_true rfl) rfl rfl h (fun x26 H25 h => ?_)
      exact g_ret zp70 rfl rfl ⟨_, rfl, h⟩
theorem zp71 : zprog.getD 71 [] = zk71 := rfl
theorem x71_0 {w : zWt} {d : Nat} {H : zHt} {K : Int → zHt → Prop} {l1 : Int}
    (h : zclV w d 45 [zR 36, zI l1] H (fun H1 => zgo w (d + 1) 71 9 [zR 36, zJ, zI 1, zI 0] [] H1 (zQI K))) :
    zclI w (d + 1) 71 [zR 36, zI l1] H K := by
  show zgo w (d + 1) 71 0 [zR 36, zI l1, zJ, zJ] [] H (zQI K)
  refine g_al zp71 rfl rfl rfl (by decide) ?_
  refine g_il zp71 rfl rfl rfl ?_
  refine g_callV (as := [zR 36, zI l1]) (rest := []) zp71 rfl rfl (Nat.succ_pos _) rfl rfl (Nat.le_of_ble_eq_true rfl) (Nat.le_of_ble_eq_true rfl) rfl rfl h (fun H1 h => ?_)
  refine g_ic zp71 rfl rfl ?_
  refine g_is (ls' := [zR 36, zI l1, zI 1, zJ]) zp71 rfl rfl (Nat.le_of_ble_eq_true rfl) rfl ?_
  refine g_ic zp71 rfl rfl ?_
  refine g_is (ls' := [zR 36, zI l1, zI 1, zI 0]) zp71 rfl rfl (Nat.le_of_ble_eq_true rfl) rfl ?_
  exact g_weak (ls' := [zR 36, zJ, zI 1, zI 0]) ⟨Or.inr rfl, Or.inl rfl, Or.inr rfl, Or.inr rfl, trivial⟩ h
theorem x71_9 {w : zWt} {d : Nat} {H : zHt} {K : Int → zHt → Prop} {l2 : Int} {l3 : Int}
    (h : ((H 36 3) ≤ l3 → K l2 H) ∧ (l3 < (H 36 3) → (0 ≤ l3 ∧ l3 < 9) ∧ zgo w (d + 1) 71 9 [zR 36, zJ, zI (w32 (l2 * (w32 ((H 38 l3) + 1)))), zI (w32 (l3 + 1))] [] H (zQI K))) :
    zgo w (d + 1) 71 9 [zR 36, zJ, zI l2, zI l3] [] H (zQI K) := by
  refine g_il zp71 rfl rfl rfl ?_
  refine g_al zp71 rfl rfl rfl (by decide) ?_
  refine g_get (v := zI (H 36 3)) zp71 rfl rfl rfl ⟨rfl, by decide, (by decide)⟩ rfl ?_
  refine g_icmp zp71 rfl rfl zc3 (fun c1 => ?_) (fun c1 => ?_)
  · replace h := h.1 c1
    refine g_il zp71 rfl rfl rfl ?_
    exact g_ret zp71 rfl rfl ⟨_, rfl, h⟩
  · replace h := h.2 c1
    refine g_il zp71 rfl rfl rfl ?_
    refine g_al zp71 rfl rfl rfl (by decide) ?_
    refine g_get (v := zR 38) zp71 rfl rfl rfl ⟨rfl, by decide, (by decide)⟩ rfl ?_
    refine g_il zp71 rfl rfl rfl ?_
    obtain ⟨c2, h⟩ := h
    refine g_ald (v := zI (H 38 l3)) zp71 rfl rfl rfl rfl c2 rfl ?_
    refine g_ic zp71 rfl rfl ?_
    refine g_ar (r := w32 ((H 38 l3) + 1)) zp71 rfl rfl rfl ?_
    refine g_ar (r := w32 (l2 * (w32 ((H 38 l3) + 1)))) zp71 rfl rfl rfl ?_
    refine g_is (ls' := [zR 36, zJ, zI (w32 (l2 * (w32 ((H 38 l3) + 1)))), zI l3]) zp71 rfl rfl (Nat.le_of_ble_eq_true rfl) rfl ?_
    refine g_inc (ls' := [zR 36, zJ, zI (w32 (l2 * (w32 ((H 38 l3) + 1)))), zI (w32 (l3 + 1))]) zp71 rfl rfl rfl rfl ?_
    refine g_goto zp71 rfl ?_
    exact g_weak (ls' := [zR 36, zJ, zI (w32 (l2 * (w32 ((H 38 l3) + 1)))), zI (w32 (l3 + 1))]) ⟨Or.inr rfl, Or.inr rfl, Or.inr rfl, Or.inr rfl, trivial⟩ h
theorem zp72 : zprog.getD 72 [] = zk72 := rfl
theorem x72_0 {w : zWt} {d : Nat} {H : zHt} {K : Int → zHt → Prop} {l0 : Int} {l1 : Int}
    (h : zgo w d 72 4 [zI l0, zI l1, zI 0, zI 1] [] H (zQI K)) :
    zclI w d 72 [zI l0, zI l1] H K := by
  show zgo w d 72 0 [zI l0, zI l1, zJ, zJ] [] H (zQI K)
  refine g_ic zp72 rfl rfl ?_
  refine g_is (ls' := [zI l0, zI l1, zI 0, zJ]) zp72 rfl rfl (Nat.le_of_ble_eq_true rfl) rfl ?_
  refine g_ic zp72 rfl rfl ?_
  refine g_is (ls' := [zI l0, zI l1, zI 0, zI 1]) zp72 rfl rfl (Nat.le_of_ble_eq_true rfl) rfl ?_
  exact g_weak (ls' := [zI l0, zI l1, zI 0, zI 1]) ⟨Or.inr rfl, Or.inr rfl, Or.inr rfl, Or.inr rfl, trivial⟩ h
theorem x72_4 {w : zWt} {d : Nat} {H : zHt} {K : Int → zHt → Prop} {l0 : Int} {l1 : Int} {l2 : Int} {l3 : Int}
    (h : (l3 ≠ 0) ∧ ((w32 (Int.tdiv l0 l3)) < l3 → K 1 H) ∧ (l3 ≤ (w32 (Int.tdiv l0 l3)) → ((Int.tmod l0 l3) = 0 → (¬ l2 = l1 → zgo w d 72 4 [zI l0, zI l1, zI (w32 (l2 + 1)), zI (w32 (l3 + 1))] [] H (zQI K)) ∧ (l2 = l1 → K l3 H)) ∧ (¬ (Int.tmod l0 l3) = 0 → zgo w d 72 4 [zI l0, zI l1, zI l2, zI (w32 (l3 + 1))] [] H (zQI K)))) :
    zgo w d 72 4 [zI l0, zI l1, zI l2, zI l3] [] H (zQI K) := by
  refine g_il zp72 rfl rfl rfl ?_
  refine g_il zp72 rfl rfl rfl ?_
  refine g_il zp72 rfl rfl rfl ?_
  obtain ⟨c1, h⟩ := h
  refine g_ar (r := w32 (Int.tdiv l0 l3)) zp72 rfl rfl (zr_div c1) ?_
  refine g_icmp zp72 rfl rfl zc4 (fun c2 => ?_) (fun c2 => ?_)
  · replace h := h.1 c2
    refine g_ic zp72 rfl rfl ?_
    exact g_ret zp72 rfl rfl ⟨_, rfl, h⟩
  · replace h := h.2 c2
    refine g_il zp72 rfl rfl rfl ?_
    refine g_il zp72 rfl rfl rfl ?_
    refine g_ar (r := Int.tmod l0 l3) zp72 rfl rfl (zr_rem c1) ?_
    refine g_if zp72 rfl rfl zc0 (fun c3 => ?_) (fun c3 => ?_)
    · replace h := h.1 c3
      refine g_il zp72 rfl rfl rfl ?_
      refine g_il zp72 rfl rfl rfl ?_
      refine g_icmp zp72 rfl rfl zc1 (fun c4 => ?_) (fun c4 => ?_)
      · replace h := h.1 c4
        refine g_inc (ls' := [zI l0, zI l1, zI (w32 (l2 + 1)), zI l3]) zp72 rfl rfl rfl rfl ?_
        refine g_inc (ls' := [zI l0, zI l1, zI (w32 (l2 + 1)), zI (w32 (l3 + 1))]) zp72 rfl rfl rfl rfl ?_
        refine g_goto zp72 rfl ?_
        exact g_weak (ls' := [zI l0, zI l1, zI (w32 (l2 + 1)), zI (w32 (l3 + 1))]) ⟨Or.inr rfl, Or.inr rfl, Or.inr rfl, Or.inr rfl, trivial⟩ h
      · replace h := h.2 c4
        refine g_il zp72 rfl rfl rfl ?_
        exact g_ret zp72 rfl rfl ⟨_, rfl, h⟩
    · replace h := h.2 c3
      refine g_goto zp72 rfl ?_
      refine g_inc (ls' := [zI l0, zI l1, zI l2, zI (w32 (l3 + 1))]) zp72 rfl rfl rfl rfl ?_
      refine g_goto zp72 rfl ?_
      exact g_weak (ls' := [zI l0, zI l1, zI l2, zI (w32 (l3 + 1))]) ⟨Or.inr rfl, Or.inr rfl, Or.inr rfl, Or.inr rfl, trivial⟩ h
theorem zp73 : zprog.getD 73 [] = zk73 := rfl
theorem x73_0 {w : zWt} {d : Nat} {H : zHt} {K : Int → zHt → Prop} {l1 : Int}
    (h : (l1 < 1 → zclI w d 13 [zR 32, zI 1] H (fun x3 H2 => K x3 H2)) ∧ (1 ≤ l1 → (l1 ≤ 3000 → zclI w d 62 [zR 32, zI 0, zI l1] H (fun x6 H5 => (¬ x6 = 0 → (x6 = 1 → zclI w d 39 [zR 32, zI 1] H5 (fun x10 H9 => K x10 H9)) ∧ (¬ x6 = 1 → zclI w d 74 [zR 32, zI l1] H5 (fun x12 H11 => (x12 = 0 → zclI w d 39 [zR 32, zI 2] H11 (fun x15 H14 => K x15 H14)) ∧ (¬ x12 = 0 → zclI w d 39 [zR 32, zI 1] H11 (fun x17 H16 => K x17 H16))))) ∧ (x6 = 0 → zclI w d 39 [zR 32, zI 0] H5 (fun x19 H18 => K x19 H18)))) ∧ (3000 < l1 → zclI w d 13 [zR 32, zI 1] H (fun x21 H20 => K x21 H20)))) :
    zclI w (d + 1) 73 [zR 32, zI l1] H K := by
  show zgo w (d + 1) 73 0 [zR 32, zI l1, zJ] [] H (zQI K)
  refine g_il zp73 rfl rfl rfl ?_
  refine g_ic zp73 rfl rfl ?_
  refine g_icmp zp73 rfl rfl zc2 (fun c1 => ?_) (fun c1 => ?_)
  · replace h := h.1 c1
    refine g_al zp73 rfl rfl rfl (by decide) ?_
    refine g_ic zp73 rfl rfl ?_
    refine g_callI (as := [zR 32, zI 1]) (rest := []) zp73 rfl rfl (Nat.succ_pos _) rfl rfl (Nat.le_of_ble_eq_true rfl) (Nat.le_of_ble_eq_true rfl) rfl rfl h (fun x3 H2 h => ?_)
    exact g_ret zp73 rfl rfl ⟨_, rfl, h⟩
  · replace h := h.2 c1
    refine g_il zp73 rfl rfl rfl ?_
    refine g_ic zp73 rfl rfl ?_
    refine g_icmp zp73 rfl rfl zc5 (fun c4 => ?_) (fun c4 => ?_)
    · replace h := h.1 c4
      refine g_al zp73 rfl rfl rfl (by decide) ?_
      refine g_ic zp73 rfl rfl ?_
      refine g_il zp73 rfl rfl rfl ?_
      refine g_callI (as := [zR 32, zI 0, zI l1]) (rest := []) zp73 rfl rfl (Nat.succ_pos _) rfl rfl (Nat.le_of_ble_eq_true rfl) (Nat.le_of_ble_eq_true rfl) rfl rfl h (fun x6 H5 h => ?_)
      refine g_is (ls' := [zR 32, zI l1, zI x6]) zp73 rfl rfl (Nat.le_of_ble_eq_true rfl) rfl ?_
      refine g_il zp73 rfl rfl rfl ?_
      refine g_if zp73 rfl rfl zc1 (fun c7 => ?_) (fun c7 => ?_)
      · replace h := h.1 c7
        refine g_il zp73 rfl rfl rfl ?_
        refine g_ic zp73 rfl rfl ?_
        refine g_icmp zp73 rfl rfl zc0 (fun c8 => ?_) (fun c8 => ?_)
        · replace h := h.1 c8
          refine g_al zp73 rfl rfl rfl (by decide) ?_
          refine g_ic zp73 rfl rfl ?_
          refine g_callI (as := [zR 32, zI 1]) (rest := []) zp73 rfl rfl (Nat.succ_pos _) rfl rfl (Nat.le_of_ble_eq_true rfl) (Nat.le_of_ble_eq_true rfl) rfl rfl h (fun x10 H9 h => ?_)
          exact g_ret zp73 rfl rfl ⟨_, rfl, h⟩
        · replace h := h.2 c8
          refine g_al zp73 rfl rfl rfl (by decide) ?_
          refine g_il zp73 rfl rfl rfl ?_
          refine g_callI (as := [zR 32, zI l1]) (rest := []) zp73 rfl rfl (Nat.succ_pos _) rfl rfl (Nat.le_of_ble_eq_true rfl) (Nat.le_of_ble_eq_true rfl) rfl rfl h (fun x12 H11 h => ?_)
          refine g_if zp73 rfl rfl zc0 (fun c13 => ?_) (fun c13 => ?_)
          · replace h := h.1 c13
            refine g_al zp73 rfl rfl rfl (by decide) ?_
            refine g_ic zp73 rfl rfl ?_
            refine g_callI (as := [zR 32, zI 2]) (rest := []) zp73 rfl rfl (Nat.succ_pos _) rfl rfl (Nat.le_of_ble_eq_true rfl) (Nat.le_of_ble_eq_true rfl) rfl rfl h (fun x15 H14 h => ?_)
            exact g_ret zp73 rfl rfl ⟨_, rfl, h⟩
          · replace h := h.2 c13
            refine g_al zp73 rfl rfl rfl (by decide) ?_
            refine g_ic zp73 rfl rfl ?_
            refine g_callI (as := [zR 32, zI 1]) (rest := []) zp73 rfl rfl (Nat.succ_pos _) rfl rfl (Nat.le_of_ble_eq_true rfl) (Nat.le_of_ble_eq_true rfl) rfl rfl h (fun x17 H16 h => ?_)
            exact g_ret zp73 rfl rfl ⟨_, rfl, h⟩
      · replace h := h.2 c7
        refine g_al zp73 rfl rfl rfl (by decide) ?_
        refine g_ic zp73 rfl rfl ?_
        refine g_callI (as := [zR 32, zI 0]) (rest := []) zp73 rfl rfl (Nat.succ_pos _) rfl rfl (Nat.le_of_ble_eq_true rfl) (Nat.le_of_ble_eq_true rfl) rfl rfl h (fun x19 H18 h => ?_)
        exact g_ret zp73 rfl rfl ⟨_, rfl, h⟩
    · replace h := h.2 c4
      refine g_al zp73 rfl rfl rfl (by decide) ?_
      refine g_ic zp73 rfl rfl ?_
      refine g_callI (as := [zR 32, zI 1]) (rest := []) zp73 rfl rfl (Nat.succ_pos _) rfl rfl (Nat.le_of_ble_eq_true rfl) (Nat.le_of_ble_eq_true rfl) rfl rfl h (fun x21 H20 h => ?_)
      exact g_ret zp73 rfl rfl ⟨_, rfl, h⟩
theorem zp74 : zprog.getD 74 [] = zk74 := rfl
theorem x74_0 {w : zWt} {d : Nat} {H : zHt} {K : Int → zHt → Prop} {l1 : Int}
    (h : zgo w (d + 1) 74 2 [zR 32, zI l1, zI 0] [] H (zQI K)) :
    zclI w (d + 1) 74 [zR 32, zI l1] H K := by
  show zgo w (d + 1) 74 0 [zR 32, zI l1, zJ] [] H (zQI K)
  refine g_ic zp74 rfl rfl ?_
  refine g_is (ls' := [zR 32, zI l1, zI 0]) zp74 rfl rfl (Nat.le_of_ble_eq_true rfl) rfl ?_
  exact g_weak (ls' := [zR 32, zI l1, zI 0]) ⟨Or.inr rfl, Or.inr rfl, Or.inr rfl, trivial⟩ h
theorem x74_2 {w : zWt} {d : Nat} {H : zHt} {K : Int → zHt → Prop} {l1 : Int} {l2 : Int}
    (h : (47 ≤ l2 → zgo w (d + 1) 74 34 [zR 32, zI l1, zI 1] [] H (zQI K)) ∧ (l2 < 47 → (¬ l2 = 0 → (0 ≤ l2 ∧ l2 < 47) ∧ zgo w (d + 1) 74 2 [zR 32, zI l1, zI (w32 (l2 + 1))] [] (zup H 52 l2 0) (zQI K)) ∧ (l2 = 0 → (0 ≤ l2 ∧ l2 < 47) ∧ zgo w (d + 1) 74 2 [zR 32, zI l1, zI (w32 (l2 + 1))] [] (zup H 52 l2 1) (zQI K)))) :
    zgo w (d + 1) 74 2 [zR 32, zI l1, zI l2] [] H (zQI K) := by
  refine g_il zp74 rfl rfl rfl ?_
  refine g_al zp74 rfl rfl rfl (by decide) ?_
  refine g_get (v := zR 52) zp74 rfl rfl rfl ⟨rfl, by decide, (by decide)⟩ rfl ?_
  refine g_len zp74 rfl rfl rfl (by decide) ?_
  refine g_icmp zp74 rfl rfl zc3 (fun c1 => ?_) (fun c1 => ?_)
  · replace h := h.1 c1
    refine g_ic zp74 rfl rfl ?_
    refine g_is (ls' := [zR 32, zI l1, zI 1]) zp74 rfl rfl (Nat.le_of_ble_eq_true rfl) rfl ?_
    exact g_weak (ls' := [zR 32, zI l1, zI 1]) ⟨Or.inr rfl, Or.inr rfl, Or.inr rfl, trivial⟩ h
  · replace h := h.2 c1
    refine g_al zp74 rfl rfl rfl (by decide) ?_
    refine g_get (v := zR 52) zp74 rfl rfl rfl ⟨rfl, by decide, (by decide)⟩ rfl ?_
    refine g_il zp74 rfl rfl rfl ?_
    refine g_il zp74 rfl rfl rfl ?_
    refine g_if zp74 rfl rfl zc1 (fun c2 => ?_) (fun c2 => ?_)
    · replace h := h.1 c2
      refine g_lc zp74 rfl rfl ?_
      obtain ⟨c3, h⟩ := h
      refine g_last zp74 rfl rfl rfl (by decide) rfl c3 ?_
      refine g_inc (ls' := [zR 32, zI l1, zI (w32 (l2 + 1))]) zp74 rfl rfl rfl rfl ?_
      refine g_goto zp74 rfl ?_
      exact g_weak (ls' := [zR 32, zI l1, zI (w32 (l2 + 1))]) ⟨Or.inr rfl, Or.inr rfl, Or.inr rfl, trivial⟩ h
    · replace h := h.2 c2
      refine g_lc zp74 rfl rfl ?_
      refine g_goto zp74 rfl ?_
      obtain ⟨c4, h⟩ := h
      refine g_last zp74 rfl rfl rfl (by decide) rfl c4 ?_
      refine g_inc (ls' := [zR 32, zI l1, zI (w32 (l2 + 1))]) zp74 rfl rfl rfl rfl ?_
      refine g_goto zp74 rfl ?_
      exact g_weak (ls' := [zR 32, zI l1, zI (w32 (l2 + 1))]) ⟨Or.inr rfl, Or.inr rfl, Or.inr rfl, trivial⟩ h
theorem x74_34 {w : zWt} {d : Nat} {H : zHt} {K : Int → zHt → Prop} {l1 : Int} {l2 : Int}
    (h : ((w32 (Int.tdiv l1 2)) < l2 → (47 ≤ (w32 (Int.tdiv l1 64)) → K 0 H) ∧ ((w32 (Int.tdiv l1 64)) < 47 → (0 ≤ (w32 (Int.tdiv l1 64)) ∧ (w32 (Int.tdiv l1 64)) < 47) ∧ (¬ (zandL (zushrL (H 52 (w32 (Int.tdiv l1 64))) (Int.tmod l1 64)) 1) = 1 → K 0 H) ∧ ((zandL (zushrL (H 52 (w32 (Int.tdiv l1 64))) (Int.tmod l1 64)) 1) = 1 → K 1 H))) ∧ (l2 ≤ (w32 (Int.tdiv l1 2)) → (l2 ≠ 0) ∧ (¬ (Int.tmod l1 l2) = 0 → zgo w (d + 1) 74 34 [zR 32, zI l1, zI (w32 (l2 + 1))] [] H (zQI K)) ∧ ((Int.tmod l1 l2) = 0 → zclV w d 75 [zR 32, zI l2] H (fun H7 => zgo w (d + 1) 74 34 [zR 32, zI l1, zI (w32 (l2 + 1))] [] H7 (zQI K))))) :
    zgo w (d + 1) 74 34 [zR 32, zI l1, zI l2] [] H (zQI K) := by
  refine g_il zp74 rfl rfl rfl ?_
  refine g_il zp74 rfl rfl rfl ?_
  refine g_ic zp74 rfl rfl ?_
  refine g_ar (r := w32 (Int.tdiv l1 2)) zp74 rfl rfl (zr_div (by decide)) ?_
  refine g_icmp zp74 rfl rfl zc4 (fun c1 => ?_) (fun c1 => ?_)
  · replace h := h.1 c1
    refine g_il zp74 rfl rfl rfl ?_
    refine g_ic zp74 rfl rfl ?_
    refine g_ar (r := w32 (Int.tdiv l1 64)) zp74 rfl rfl (zr_div (by decide)) ?_
    refine g_is (ls' := [zR 32, zI l1, zI (w32 (Int.tdiv l1 64))]) zp74 rfl rfl (Nat.le_of_ble_eq_true rfl) rfl ?_
    refine g_il zp74 rfl rfl rfl ?_
    refine g_al zp74 rfl rfl rfl (by decide) ?_
    refine g_get (v := zR 52) zp74 rfl rfl rfl ⟨rfl, by decide, (by decide)⟩ rfl ?_
    refine g_len zp74 rfl rfl rfl (by decide) ?_
    refine g_icmp zp74 rfl rfl zc3 (fun c2 => ?_) (fun c2 => ?_)
    · replace h := h.1 c2
      refine g_ic zp74 rfl rfl ?_
      exact g_ret zp74 rfl (zret_b (by decide)) ⟨_, rfl, h⟩
    · replace h := h.2 c2
      refine g_al zp74 rfl rfl rfl (by decide) ?_
      refine g_get (v := zR 52) zp74 rfl rfl rfl ⟨rfl, by decide, (by decide)⟩ rfl ?_
      refine g_il zp74 rfl rfl rfl ?_
      obtain ⟨c3, h⟩ := h
      refine g_ald (v := zL (H 52 (w32 (Int.tdiv l1 64)))) zp74 rfl rfl rfl rfl c3 rfl ?_
      refine g_il zp74 rfl rfl rfl ?_
      refine g_ic zp74 rfl rfl ?_
      refine g_ar (r := Int.tmod l1 64) zp74 rfl rfl (zr_rem (by decide)) ?_
      refine g_lsh zp74 rfl rfl ?_
      refine g_lc zp74 rfl rfl ?_
      refine g_lar (r := zandL (zushrL (H 52 (w32 (Int.tdiv l1 64))) (Int.tmod l1 64)) 1) zp74 rfl rfl rfl ?_
      refine g_lc zp74 rfl rfl ?_
      refine g_lcmp zp74 rfl rfl rfl rfl zc1 (fun c4 => ?_) (fun c4 => ?_)
      · replace h := h.1 c4
        refine g_ic zp74 rfl rfl ?_
        exact g_ret zp74 rfl (zret_b (by decide)) ⟨_, rfl, h⟩
      · replace h := h.2 c4
        refine g_ic zp74 rfl rfl ?_
        refine g_goto zp74 rfl ?_
        exact g_ret zp74 rfl (zret_b (by decide)) ⟨_, rfl, h⟩
  · replace h := h.2 c1
    refine g_il zp74 rfl rfl rfl ?_
    refine g_il zp74 rfl rfl rfl ?_
    obtain ⟨c5, h⟩ := h
    refine g_ar (r := Int.tmod l1 l2) zp74 rfl rfl (zr_rem c5) ?_
    refine g_if zp74 rfl rfl zc1 (fun c6 => ?_) (fun c6 => ?_)
    · replace h := h.1 c6
      refine g_inc (ls' := [zR 32, zI l1, zI (w32 (l2 + 1))]) zp74 rfl rfl rfl rfl ?_
      refine g_goto zp74 rfl ?_
      exact g_weak (ls' := [zR 32, zI l1, zI (w32 (l2 + 1))]) ⟨Or.inr rfl, Or.inr rfl, Or.inr rfl, trivial⟩ h
    · replace h := h.2 c6
      refine g_al zp74 rfl rfl rfl (by decide) ?_
      refine g_il zp74 rfl rfl rfl ?_
      refine g_callV (as := [zR 32, zI l2]) (rest := []) zp74 rfl rfl (Nat.succ_pos _) rfl rfl (Nat.le_of_ble_eq_true rfl) (Nat.le_of_ble_eq_true rfl) rfl rfl h (fun H7 h => ?_)
      refine g_inc (ls' := [zR 32, zI l1, zI (w32 (l2 + 1))]) zp74 rfl rfl rfl rfl ?_
      refine g_goto zp74 rfl ?_
      exact g_weak (ls' := [zR 32, zI l1, zI (w32 (l2 + 1))]) ⟨Or.inr rfl, Or.inr rfl, Or.inr rfl, trivial⟩ h
theorem zp75 : zprog.getD 75 [] = zk75 := rfl
theorem x75_0 {w : zWt} {d : Nat} {H : zHt} {K : zHt → Prop} {l1 : Int}
    (h : zgo w d 75 19 [zR 32, zJ, zI (w32 (Int.tdiv l1 64)), zI (Int.tmod l1 64), zI (w32 (47 - 1)), zJ, zJ] [] H (zQV K)) :
    zclV w d 75 [zR 32, zI l1] H K := by
  show zgo w d 75 0 [zR 32, zI l1, zJ, zJ, zJ, zJ, zJ] [] H (zQV K)
  refine g_il zp75 rfl rfl rfl ?_
  refine g_ic zp75 rfl rfl ?_
  refine g_ar (r := w32 (Int.tdiv l1 64)) zp75 rfl rfl (zr_div (by decide)) ?_
  refine g_is (ls' := [zR 32, zI l1, zI (w32 (Int.tdiv l1 64)), zJ, zJ, zJ, zJ]) zp75 rfl rfl (Nat.le_of_ble_eq_true rfl) rfl ?_
  refine g_il zp75 rfl rfl rfl ?_
  refine g_ic zp75 rfl rfl ?_
  refine g_ar (r := Int.tmod l1 64) zp75 rfl rfl (zr_rem (by decide)) ?_
  refine g_is (ls' := [zR 32, zI l1, zI (w32 (Int.tdiv l1 64)), zI (Int.tmod l1 64), zJ, zJ, zJ]) zp75 rfl rfl (Nat.le_of_ble_eq_true rfl) rfl ?_
  refine g_al zp75 rfl rfl rfl (by decide) ?_
  refine g_get (v := zR 52) zp75 rfl rfl rfl ⟨rfl, by decide, (by decide)⟩ rfl ?_
  refine g_len zp75 rfl rfl rfl (by decide) ?_
  refine g_ic zp75 rfl rfl ?_
  refine g_ar (r := w32 (47 - 1)) zp75 rfl rfl rfl ?_
  refine g_is (ls' := [zR 32, zI l1, zI (w32 (Int.tdiv l1 64)), zI (Int.tmod l1 64), zI (w32 (47 - 1)), zJ, zJ]) zp75 rfl rfl (Nat.le_of_ble_eq_true rfl) rfl ?_
  exact g_weak (ls' := [zR 32, zJ, zI (w32 (Int.tdiv l1 64)), zI (Int.tmod l1 64), zI (w32 (47 - 1)), zJ, zJ]) ⟨Or.inr rfl, Or.inl rfl, Or.inr rfl, Or.inr rfl, Or.inr rfl, Or.inr rfl, Or.inr rfl, trivial⟩ h
theorem x75_19 {w : zWt} {d : Nat} {H : zHt} {K : zHt → Prop} {l2 : Int} {l3 : Int} {l4 : Int}
    (h : (l4 < l2 → K H) ∧ (l2 ≤ l4 → (0 ≤ (w32 (l4 - l2)) ∧ (w32 (l4 - l2)) < 47) ∧ (l3 ≤ 0 → (0 ≤ l4 ∧ l4 < 47) ∧ zgo w d 75 19 [zR 32, zJ, zI l2, zI l3, zI (w32 (l4 + (-1))), zJ, zJ] [] (zup H 52 l4 (zorL (H 52 l4) (zshlL (H 52 (w32 (l4 - l2))) l3))) (zQV K)) ∧ (0 < l3 → (l4 ≤ l2 → (0 ≤ l4 ∧ l4 < 47) ∧ zgo w d 75 19 [zR 32, zJ, zI l2, zI l3, zI (w32 (l4 + (-1))), zJ, zJ] [] (zup H 52 l4 (zorL (H 52 l4) (zshlL (H 52 (w32 (l4 - l2))) l3))) (zQV K)) ∧ (l2 < l4 → (0 ≤ (w32 ((w32 (l4 - l2)) - 1)) ∧ (w32 ((w32 (l4 - l2)) - 1)) < 47) ∧ (0 ≤ l4 ∧ l4 < 47) ∧ (∀ v9 : Int, v9 = zorL (H 52 l4) (zorL (zshlL (H 52 (w32 (l4 - l2))) l3) (zushrL (H 52 (w32 ((w32 (l4 - l2)) - 1))) (w32 (64 - l3)))) → zgo w d 75 19 [zR 32, zJ, zI l2, zI l3, zI (w32 (l4 + (-1))), zJ, zJ] [] (zup H 52 l4 v9) (zQV K)))))) :
    zgo w d 75 19 [zR 32, zJ, zI l2, zI l3, zI l4, zJ, zJ] [] H (zQV K) := by
  refine g_il zp75 rfl rfl rfl ?_
  refine g_il zp75 rfl rfl rfl ?_
  refine g_icmp zp75 rfl rfl zc2 (fun c1 => ?_) (fun c1 => ?_)
  · replace h := h.1 c1
    exact g_ret zp75 rfl rfl ⟨rfl, h⟩
  · replace h := h.2 c1
    refine g_al zp75 rfl rfl rfl (by decide) ?_
    refine g_get (v := zR 52) zp75 rfl rfl rfl ⟨rfl, by decide, (by decide)⟩ rfl ?_
    refine g_il zp75 rfl rfl rfl ?_
    refine g_il zp75 rfl rfl rfl ?_
    refine g_ar (r := w32 (l4 - l2)) zp75 rfl rfl rfl ?_
    obtain ⟨c2, h⟩ := h
    refine g_ald (v := zL (H 52 (w32 (l4 - l2)))) zp75 rfl rfl rfl rfl c2 rfl ?_
    refine g_il zp75 rfl rfl rfl ?_
    refine g_lsh zp75 rfl rfl ?_
    refine g_ls (ls' := [zR 32, zJ, zI l2, zI l3, zI l4, zL (zshlL (H 52 (w32 (l4 - l2))) l3), zJ]) zp75 rfl rfl (Nat.le_of_ble_eq_true rfl) rfl ?_
    refine g_il zp75 rfl rfl rfl ?_
    refine g_if zp75 rfl rfl zc5 (fun c3 => ?_) (fun c3 => ?_)
    · replace h := h.1 c3
      refine g_al zp75 rfl rfl rfl (by decide) ?_
      refine g_get (v := zR 52) zp75 rfl rfl rfl ⟨rfl, by decide, (by decide)⟩ rfl ?_
      refine g_il zp75 rfl rfl rfl ?_
      refine g_dup2 zp75 rfl rfl (fun q => by cases q) rfl ?_
      obtain ⟨c4, h⟩ := h
      refine g_ald (v := zL (H 52 l4)) zp75 rfl rfl rfl rfl c4 rfl ?_
      refine g_ll zp75 rfl rfl rfl ?_
      refine g_lar (r := zorL (H 52 l4) (zshlL (H 52 (w32 (l4 - l2))) l3)) zp75 rfl rfl rfl ?_
      refine g_last zp75 rfl rfl rfl (by decide) rfl c4 ?_
      refine g_inc (ls' := [zR 32, zJ, zI l2, zI l3, zI (w32 (l4 + (-1))), zL (zshlL (H 52 (w32 (l4 - l2))) l3), zJ]) zp75 rfl rfl rfl rfl ?_
      refine g_goto zp75 rfl ?_
      exact g_weak (ls' := [zR 32, zJ, zI l2, zI l3, zI (w32 (l4 + (-1))), zJ, zJ]) ⟨Or.inr rfl, Or.inr rfl, Or.inr rfl, Or.inr rfl, Or.inr rfl, Or.inl rfl, Or.inr rfl, trivial⟩ h
    · replace h := h.2 c3
      refine g_il zp75 rfl rfl rfl ?_
      refine g_il zp75 rfl rfl rfl ?_
      refine g_icmp zp75 rfl rfl zc5 (fun c5 => ?_) (fun c5 => ?_)
      · replace h := h.1 c5
        refine g_al zp75 rfl rfl rfl (by decide) ?_
        refine g_get (v := zR 52) zp75 rfl rfl rfl ⟨rfl, by decide, (by decide)⟩ rfl ?_
        refine g_il zp75 rfl rfl rfl ?_
        refine g_dup2 zp75 rfl rfl (fun q => by cases q) rfl ?_
        obtain ⟨c6, h⟩ := h
        refine g_ald (v := zL (H 52 l4)) zp75 rfl rfl rfl rfl c6 rfl ?_
        refine g_ll zp75 rfl rfl rfl ?_
        refine g_lar (r := zorL (H 52 l4) (zshlL (H 52 (w32 (l4 - l2))) l3)) zp75 rfl rfl rfl ?_
        refine g_last zp75 rfl rfl rfl (by decide) rfl c6 ?_
        refine g_inc (ls' := [zR 32, zJ, zI l2, zI l3, zI (w32 (l4 + (-1))), zL (zshlL (H 52 (w32 (l4 - l2))) l3), zJ]) zp75 rfl rfl rfl rfl ?_
        refine g_goto zp75 rfl ?_
        exact g_weak (ls' := [zR 32, zJ, zI l2, zI l3, zI (w32 (l4 + (-1))), zJ, zJ]) ⟨Or.inr rfl, Or.inr rfl, Or.inr rfl, Or.inr rfl, Or.inr rfl, Or.inl rfl, Or.inr rfl, trivial⟩ h
      · replace h := h.2 c5
        refine g_ll zp75 rfl rfl rfl ?_
        refine g_al zp75 rfl rfl rfl (by decide) ?_
        refine g_get (v := zR 52) zp75 rfl rfl rfl ⟨rfl, by decide, (by decide)⟩ rfl ?_
        refine g_il zp75 rfl rfl rfl ?_
        refine g_il zp75 rfl rfl rfl ?_
        refine g_ar (r := w32 (l4 - l2)) zp75 rfl rfl rfl ?_
        refine g_ic zp75 rfl rfl ?_
        refine g_ar (r := w32 ((w32 (l4 - l2)) - 1)) zp75 rfl rfl rfl ?_
        obtain ⟨c7, h⟩ := h
        refine g_ald (v := zL (H 52 (w32 ((w32 (l4 - l2)) - 1)))) zp75 rfl rfl rfl rfl c7 rfl ?_
        refine g_ic zp75 rfl rfl ?_
        refine g_il zp75 rfl rfl rfl ?_
        refine g_ar (r := w32 (64 - l3)) zp75 rfl rfl rfl ?_
        refine g_lsh zp75 rfl rfl ?_
        refine g_lar (r := zorL (zshlL (H 52 (w32 (l4 - l2))) l3) (zushrL (H 52 (w32 ((w32 (l4 - l2)) - 1))) (w32 (64 - l3)))) zp75 rfl rfl rfl ?_
        refine g_ls (ls' := [zR 32, zJ, zI l2, zI l3, zI l4, zL (zorL (zshlL (H 52 (w32 (l4 - l2))) l3) (zushrL (H 52 (w32 ((w32 (l4 - l2)) - 1))) (w32 (64 - l3)))), zJ]) zp75 rfl rfl (Nat.le_of_ble_eq_true rfl) rfl ?_
        refine g_al zp75 rfl rfl rfl (by decide) ?_
        refine g_get (v := zR 52) zp75 rfl rfl rfl ⟨rfl, by decide, (by decide)⟩ rfl ?_
        refine g_il zp75 rfl rfl rfl ?_
        refine g_dup2 zp75 rfl rfl (fun q => by cases q) rfl ?_
        obtain ⟨c8, h⟩ := h
        refine g_ald (v := zL (H 52 l4)) zp75 rfl rfl rfl rfl c8 rfl ?_
        refine g_ll zp75 rfl rfl rfl ?_
        refine g_lar (r := zorL (H 52 l4) (zorL (zshlL (H 52 (w32 (l4 - l2))) l3) (zushrL (H 52 (w32 ((w32 (l4 - l2)) - 1))) (w32 (64 - l3))))) zp75 rfl rfl rfl ?_
        let v9 : Int := zorL (H 52 l4) (zorL (zshlL (H 52 (w32 (l4 - l2))) l3) (zushrL (H 52 (w32 ((w32 (l4 - l2)) - 1))) (w32 (64 - l3))))
        replace h := h v9 rfl
        refine g_last zp75 rfl rfl rfl (by decide) rfl c8 ?_
        refine g_inc (ls' := [zR 32, zJ, zI l2, zI l3, zI (w32 (l4 + (-1))), zL (zorL (zshlL (H 52 (w32 (l4 - l2))) l3) (zushrL (H 52 (w32 ((w32 (l4 - l2)) - 1))) (w32 (64 - l3)))), zJ]) zp75 rfl rfl rfl rfl ?_
        refine g_goto zp75 rfl ?_
        exact g_weak (ls' := [zR 32, zJ, zI l2, zI l3, zI (w32 (l4 + (-1))), zJ, zJ]) ⟨Or.inr rfl, Or.inr rfl, Or.inr rfl, Or.inr rfl, Or.inr rfl, Or.inl rfl, Or.inr rfl, trivial⟩ h
theorem zp76 : zprog.getD 76 [] = zk76 := rfl
theorem x76_0 {w : zWt} {d : Nat} {H : zHt} {K : Int → zHt → Prop} {l1 : Int} {l2 : Int}
    (h : zclI w d 43 [zI l1] H (fun x2 H1 => (x2 = 0 → zclI w d 13 [zR 32, zI 1] H1 (fun x5 H4 => K x5 H4)) ∧ (¬ x2 = 0 → zclI w d 44 [zI l2, zI 1] H1 (fun x7 H6 => (¬ x7 = 0 → zclL w d 69 [zR 36, zI l1] H6 (fun x10 H9 => zclL w d 77 [zL x10, zL l1, zI l2] H9 (fun x12 H11 => zclL w d 60 [zR 32, zL x12] H11 (fun x14 H13 => K x14 H13)))) ∧ (x7 = 0 → zclI w d 13 [zR 32, zI 1] H6 (fun x16 H15 => K x16 H15)))))) :
    zclL w (d + 1) 76 [zR 32, zI l1, zI l2] H K := by
  show zgo w (d + 1) 76 0 [zR 32, zI l1, zI l2] [] H (zQL K)
  refine g_il zp76 rfl rfl rfl ?_
  refine g_callI (as := [zI l1]) (rest := []) zp76 rfl rfl (Nat.succ_pos _) rfl rfl (Nat.le_of_ble_eq_true rfl) (Nat.le_of_ble_eq_true rfl) rfl rfl h (fun x2 H1 h => ?_)
  refine g_if zp76 rfl rfl zc0 (fun c3 => ?_) (fun c3 => ?_)
  · replace h := h.1 c3
    refine g_al zp76 rfl rfl rfl (by decide) ?_
    refine g_ic zp76 rfl rfl ?_
    refine g_callI (as := [zR 32, zI 1]) (rest := []) zp76 rfl rfl (Nat.succ_pos _) rfl rfl (Nat.le_of_ble_eq_true rfl) (Nat.le_of_ble_eq_true rfl) rfl rfl h (fun x5 H4 h => ?_)
    refine g_i2l zp76 rfl rfl ?_
    exact g_ret zp76 rfl rfl ⟨_, rfl, h⟩
  · replace h := h.2 c3
    refine g_il zp76 rfl rfl rfl ?_
    refine g_ic zp76 rfl rfl ?_
    refine g_callI (as := [zI l2, zI 1]) (rest := []) zp76 rfl rfl (Nat.succ_pos _) rfl rfl (Nat.le_of_ble_eq_true rfl) (Nat.le_of_ble_eq_true rfl) rfl rfl h (fun x7 H6 h => ?_)
    refine g_if zp76 rfl rfl zc1 (fun c8 => ?_) (fun c8 => ?_)
    · replace h := h.1 c8
      refine g_al zp76 rfl rfl rfl (by decide) ?_
      refine g_al zp76 rfl rfl rfl (by decide) ?_
      refine g_get (v := zR 36) zp76 rfl rfl rfl ⟨rfl, by decide, (by decide)⟩ rfl ?_
      refine g_il zp76 rfl rfl rfl ?_
      refine g_callL (as := [zR 36, zI l1]) (rest := [zR 32]) zp76 rfl rfl (Nat.succ_pos _) rfl rfl (Nat.le_of_ble_eq_true rfl) (Nat.le_of_ble_eq_true rfl) rfl rfl h (fun x10 H9 h => ?_)
      refine g_il zp76 rfl rfl rfl ?_
      refine g_i2l zp76 rfl rfl ?_
      refine g_il zp76 rfl rfl rfl ?_
      refine g_callL (as := [zL x10, zL l1, zI l2]) (rest := [zR 32]) zp76 rfl rfl (Nat.succ_pos _) rfl rfl (Nat.le_of_ble_eq_true rfl) (Nat.le_of_ble_eq_true rfl) rfl rfl h (fun x12 H11 h => ?_)
      refine g_callL (as := [zR 32, zL x12]) (rest := []) zp76 rfl rfl (Nat.succ_pos _) rfl rfl (Nat.le_of_ble_eq_true rfl) (Nat.le_of_ble_eq_true rfl) rfl rfl h (fun x14 H13 h => ?_)
      exact g_ret zp76 rfl rfl ⟨_, rfl, h⟩
    · replace h := h.2 c8
      refine g_al zp76 rfl rfl rfl (by decide) ?_
      refine g_ic zp76 rfl rfl ?_
      refine g_callI (as := [zR 32, zI 1]) (rest := []) zp76 rfl rfl (Nat.succ_pos _) rfl rfl (Nat.le_of_ble_eq_true rfl) (Nat.le_of_ble_eq_true rfl) rfl rfl h (fun x16 H15 h => ?_)
      refine g_i2l zp76 rfl rfl ?_
      exact g_ret zp76 rfl rfl ⟨_, rfl, h⟩
theorem zp77 : zprog.getD 77 [] = zk77 := rfl
theorem x77_0 {w : zWt} {d : Nat} {H : zHt} {K : Int → zHt → Prop} {l0 : Int} {l2 : Int} {l4 : Int}
    (h : (¬ l4 = 0 → zclL w d 66 [zL l0, zL l2] H (fun x3 H2 => (x3 ≠ 0) ∧ K (w64 (Int.tdiv l2 x3)) H2)) ∧ (l4 = 0 → zclL w d 66 [zL l0, zL l2] H (fun x6 H5 => (x6 ≠ 0) ∧ K (w64 (Int.tdiv l0 x6)) H5))) :
    zclL w (d + 1) 77 [zL l0, zL l2, zI l4] H K := by
  show zgo w (d + 1) 77 0 [zL l0, zJ, zL l2, zJ, zI l4] [] H (zQL K)
  refine g_il zp77 rfl rfl rfl ?_
  refine g_if zp77 rfl rfl zc1 (fun c1 => ?_) (fun c1 => ?_)
  · replace h := h.1 c1
    refine g_ll zp77 rfl rfl rfl ?_
    refine g_ll zp77 rfl rfl rfl ?_
    refine g_ll zp77 rfl rfl rfl ?_
    refine g_callL (as := [zL l0, zL l2]) (rest := [zL l2]) zp77 rfl rfl (Nat.succ_pos _) rfl rfl (Nat.le_of_ble_eq_true rfl) (Nat.le_of_ble_eq_true rfl) rfl rfl h (fun x3 H2 h => ?_)
    obtain ⟨c4, h⟩ := h
    refine g_lar (r := w64 (Int.tdiv l2 x3)) zp77 rfl rfl (zr_ldiv c4) ?_
    exact g_ret zp77 rfl rfl ⟨_, rfl, h⟩
  · replace h := h.2 c1
    refine g_ll zp77 rfl rfl rfl ?_
    refine g_goto zp77 rfl ?_
    refine g_ll zp77 rfl rfl rfl ?_
    refine g_ll zp77 rfl rfl rfl ?_
    refine g_callL (as := [zL l0, zL l2]) (rest := [zL l0]) zp77 rfl rfl (Nat.succ_pos _) rfl rfl (Nat.le_of_ble_eq_true rfl) (Nat.le_of_ble_eq_true rfl) rfl rfl h (fun x6 H5 h => ?_)
    obtain ⟨c7, h⟩ := h
    refine g_lar (r := w64 (Int.tdiv l0 x6)) zp77 rfl rfl (zr_ldiv c7) ?_
    exact g_ret zp77 rfl rfl ⟨_, rfl, h⟩
theorem zp78 : zprog.getD 78 [] = zk78 := rfl
theorem x78_0 {w : zWt} {d : Nat} {H : zHt} {K : Int → zHt → Prop} {l1 : Int} {l2 : Int}
    (h : zclI w d 43 [zI l1] H (fun x2 H1 => (x2 = 0 → zclI w d 13 [zR 32, zI 1] H1 (fun x5 H4 => K x5 H4)) ∧ (¬ x2 = 0 → (0 ≤ l2 → zclV w d 45 [zR 36, zI l1] H1 (fun H7 => (l2 < (H7 36 3) → zclI w d 79 [zR 36, zI l2] H7 (fun x11 H10 => zclI w d 39 [zR 32, zI x11] H10 (fun x13 H12 => K x13 H12))) ∧ ((H7 36 3) ≤ l2 → zclI w d 13 [zR 32, zI 5] H7 (fun x15 H14 => K x15 H14)))) ∧ (l2 < 0 → zclI w d 13 [zR 32, zI 1] H1 (fun x17 H16 => K x17 H16))))) :
    zclI w (d + 1) 78 [zR 32, zI l1, zI l2] H K := by
  show zgo w (d + 1) 78 0 [zR 32, zI l1, zI l2] [] H (zQI K)
  refine g_il zp78 rfl rfl rfl ?_
  refine g_callI (as := [zI l1]) (rest := []) zp78 rfl rfl (Nat.succ_pos _) rfl rfl (Nat.le_of_ble_eq_true rfl) (Nat.le_of_ble_eq_true rfl) rfl rfl h (fun x2 H1 h => ?_)
  refine g_if zp78 rfl rfl zc0 (fun c3 => ?_) (fun c3 => ?_)
  · replace h := h.1 c3
    refine g_al zp78 rfl rfl rfl (by decide) ?_
    refine g_ic zp78 rfl rfl ?_
    refine g_callI (as := [zR 32, zI 1]) (rest := []) zp78 rfl rfl (Nat.succ_pos _) rfl rfl (Nat.le_of_ble_eq_true rfl) (Nat.le_of_ble_eq_true rfl) rfl rfl h (fun x5 H4 h => ?_)
    exact g_ret zp78 rfl rfl ⟨_, rfl, h⟩
  · replace h := h.2 c3
    refine g_il zp78 rfl rfl rfl ?_
    refine g_if zp78 rfl rfl zc3 (fun c6 => ?_) (fun c6 => ?_)
    · replace h := h.1 c6
      refine g_al zp78 rfl rfl rfl (by decide) ?_
      refine g_get (v := zR 36) zp78 rfl rfl rfl ⟨rfl, by decide, (by decide)⟩ rfl ?_
      refine g_il zp78 rfl rfl rfl ?_
      refine g_callV (as := [zR 36, zI l1]) (rest := []) zp78 rfl rfl (Nat.succ_pos _) rfl rfl (Nat.le_of_ble_eq_true rfl) (Nat.le_of_ble_eq_true rfl) rfl rfl h (fun H7 h => ?_)
      refine g_il zp78 rfl rfl rfl ?_
      refine g_al zp78 rfl rfl rfl (by decide) ?_
      refine g_get (v := zR 36) zp78 rfl rfl rfl ⟨rfl, by decide, (by decide)⟩ rfl ?_
      refine g_get (v := zI (H7 36 3)) zp78 rfl rfl rfl ⟨rfl, by decide, (by decide)⟩ rfl ?_
      refine g_icmp zp78 rfl rfl zc2 (fun c9 => ?_) (fun c9 => ?_)
      · replace h := h.1 c9
        refine g_al zp78 rfl rfl rfl (by decide) ?_
        refine g_al zp78 rfl rfl rfl (by decide) ?_
        refine g_get (v := zR 36) zp78 rfl rfl rfl ⟨rfl, by decide, (by decide)⟩ rfl ?_
        refine g_il zp78 rfl rfl rfl ?_
        refine g_callI (as := [zR 36, zI l2]) (rest := [zR 32]) zp78 rfl rfl (Nat.succ_pos _) rfl rfl (Nat.le_of_ble_eq_true rfl) (Nat.le_of_ble_eq_true rfl) rfl rfl h (fun x11 H10 h => ?_)
        refine g_callI (as := [zR 32, zI x11]) (rest := []) zp78 rfl rfl (Nat.succ_pos _) rfl rfl (Nat.le_of_ble_eq_true rfl) (Nat.le_of_ble_eq_true rfl) rfl rfl h (fun x13 H12 h => ?_)
        exact g_ret zp78 rfl rfl ⟨_, rfl, h⟩
      · replace h := h.2 c9
        refine g_al zp78 rfl rfl rfl (by decide) ?_
        refine g_ic zp78 rfl rfl ?_
        refine g_callI (as := [zR 32, zI 5]) (rest := []) zp78 rfl rfl (Nat.succ_pos _) rfl rfl (Nat.le_of_ble_eq_true rfl) (Nat.le_of_ble_eq_true rfl) rfl rfl h (fun x15 H14 h => ?_)
        exact g_ret zp78 rfl rfl ⟨_, rfl, h⟩
    · replace h := h.2 c6
      refine g_al zp78 rfl rfl rfl (by decide) ?_
      refine g_ic zp78 rfl rfl ?_
      refine g_callI (as := [zR 32, zI 1]) (rest := []) zp78 rfl rfl (Nat.succ_pos _) rfl rfl (Nat.le_of_ble_eq_true rfl) (Nat.le_of_ble_eq_true rfl) rfl rfl h (fun x17 H16 h => ?_)
      exact g_ret zp78 rfl rfl ⟨_, rfl, h⟩
theorem zp79 : zprog.getD 79 [] = zk79 := rfl
theorem x79_0 {w : zWt} {d : Nat} {H : zHt} {K : Int → zHt → Prop} {l1 : Int}
    (h : zclL w d 59 [zR 36, zI l1] H (fun x2 H1 => (0 ≤ l1 ∧ l1 < 9) ∧ zclL w d 55 [zI (H1 37 l1), zI (H1 38 l1)] H1 (fun x5 H4 => ((if x5 < 1 then 1 else x5) ≠ 0) ∧ K (w32 (w64 (Int.tdiv (w64 (1000 * x2)) (if x5 < 1 then 1 else x5)))) H4))) :
    zclI w (d + 1) 79 [zR 36, zI l1] H K := by
  show zgo w (d + 1) 79 0 [zR 36, zI l1] [] H (zQI K)
  refine g_lc zp79 rfl rfl ?_
  refine g_al zp79 rfl rfl rfl (by decide) ?_
  refine g_il zp79 rfl rfl rfl ?_
  refine g_callL (as := [zR 36, zI l1]) (rest := [zL 1000]) zp79 rfl rfl (Nat.succ_pos _) rfl rfl (Nat.le_of_ble_eq_true rfl) (Nat.le_of_ble_eq_true rfl) rfl rfl h (fun x2 H1 h => ?_)
  refine g_lar (r := w64 (1000 * x2)) zp79 rfl rfl rfl ?_
  refine g_lc zp79 rfl rfl ?_
  refine g_al zp79 rfl rfl rfl (by decide) ?_
  refine g_get (v := zR 37) zp79 rfl rfl rfl ⟨rfl, by decide, (by decide)⟩ rfl ?_
  refine g_il zp79 rfl rfl rfl ?_
  obtain ⟨c3, h⟩ := h
  refine g_ald (v := zI (H1 37 l1)) zp79 rfl rfl rfl rfl c3 rfl ?_
  refine g_al zp79 rfl rfl rfl (by decide) ?_
  refine g_get (v := zR 38) zp79 rfl rfl rfl ⟨rfl, by decide, (by decide)⟩ rfl ?_
  refine g_il zp79 rfl rfl rfl ?_
  refine g_ald (v := zI (H1 38 l1)) zp79 rfl rfl rfl rfl c3 rfl ?_
  refine g_callL (as := [zI (H1 37 l1), zI (H1 38 l1)]) (rest := [zL 1, zL (w64 (1000 * x2))]) zp79 rfl rfl (Nat.succ_pos _) rfl rfl (Nat.le_of_ble_eq_true rfl) (Nat.le_of_ble_eq_true rfl) rfl rfl h (fun x5 H4 h => ?_)
  refine g_mmaxL zp79 rfl rfl (Nat.le_of_ble_eq_true rfl) ?_
  obtain ⟨c6, h⟩ := h
  refine g_lar (r := w64 (Int.tdiv (w64 (1000 * x2)) (if x5 < 1 then 1 else x5))) zp79 rfl rfl (zr_ldiv c6) ?_
  refine g_l2i zp79 rfl rfl ?_
  exact g_ret zp79 rfl rfl ⟨_, rfl, h⟩
theorem zp80 : zprog.getD 80 [] = zk80 := rfl
theorem x80_0 {w : zWt} {d : Nat} {H : zHt} {K : Int → zHt → Prop} {l1 : Int} {l2 : Int} {l3 : Int} {l4 : Int}
    (h : zclI w d 43 [zI l1] H (fun x2 H1 => (x2 = 0 → zclI w d 13 [zR 32, zI 1] H1 (fun x5 H4 => K x5 H4)) ∧ (¬ x2 = 0 → zclI w d 81 [zI l2, zI l3, zI 500] H1 (fun x7 H6 => (x7 = 0 → zclI w d 13 [zR 32, zI 1] H6 (fun x10 H9 => K x10 H9)) ∧ (¬ x7 = 0 → ((-1) ≤ l4 → zclL w d 69 [zR 36, zI l1] H6 (fun x13 H12 => zgo w (d + 1) 80 46 [zR 32, zI l1, zJ, zI l3, zI l4, zL x13, zJ, zI 0, zI l2] [] H12 (zQI K))) ∧ (l4 < (-1) → zclI w d 13 [zR 32, zI 1] H6 (fun x15 H14 => K x15 H14))))))) :
    zclI w (d + 1) 80 [zR 32, zI l1, zI l2, zI l3, zI l4] H K := by
  show zgo w (d + 1) 80 0 [zR 32, zI l1, zI l2, zI l3, zI l4, zJ, zJ, zJ, zJ] [] H (zQI K)
  refine g_il zp80 rfl rfl rfl ?_
  refine g_callI (as := [zI l1]) (rest := []) zp80 rfl rfl (Nat.succ_pos _) rfl rfl (Nat.le_of_ble_eq_true rfl) (Nat.le_of_ble_eq_true rfl) rfl rfl h (fun x2 H1 h => ?_)
  refine g_if zp80 rfl rfl zc0 (fun c3 => ?_) (fun c3 => ?_)
  · replace h := h.1 c3
    refine g_al zp80 rfl rfl rfl (by decide) ?_
    refine g_ic zp80 rfl rfl ?_
    refine g_callI (as := [zR 32, zI 1]) (rest := []) zp80 rfl rfl (Nat.succ_pos _) rfl rfl (Nat.le_of_ble_eq_true rfl) (Nat.le_of_ble_eq_true rfl) rfl rfl h (fun x5 H4 h => ?_)
    exact g_ret zp80 rfl rfl ⟨_, rfl, h⟩
  · replace h := h.2 c3
    refine g_il zp80 rfl rfl rfl ?_
    refine g_il zp80 rfl rfl rfl ?_
    refine g_ic zp80 rfl rfl ?_
    refine g_callI (as := [zI l2, zI l3, zI 500]) (rest := []) zp80 rfl rfl (Nat.succ_pos _) rfl rfl (Nat.le_of_ble_eq_true rfl) (Nat.le_of_ble_eq_true rfl) rfl rfl h (fun x7 H6 h => ?_)
    refine g_if zp80 rfl rfl zc0 (fun c8 => ?_) (fun c8 => ?_)
    · replace h := h.1 c8
      refine g_al zp80 rfl rfl rfl (by decide) ?_
      refine g_ic zp80 rfl rfl ?_
      refine g_callI (as := [zR 32, zI 1]) (rest := []) zp80 rfl rfl (Nat.succ_pos _) rfl rfl (Nat.le_of_ble_eq_true rfl) (Nat.le_of_ble_eq_true rfl) rfl rfl h (fun x10 H9 h => ?_)
      exact g_ret zp80 rfl rfl ⟨_, rfl, h⟩
    · replace h := h.2 c8
      refine g_il zp80 rfl rfl rfl ?_
      refine g_ic zp80 rfl rfl ?_
      refine g_icmp zp80 rfl rfl zc3 (fun c11 => ?_) (fun c11 => ?_)
      · replace h := h.1 c11
        refine g_al zp80 rfl rfl rfl (by decide) ?_
        refine g_get (v := zR 36) zp80 rfl rfl rfl ⟨rfl, by decide, (by decide)⟩ rfl ?_
        refine g_il zp80 rfl rfl rfl ?_
        refine g_callL (as := [zR 36, zI l1]) (rest := []) zp80 rfl rfl (Nat.succ_pos _) rfl rfl (Nat.le_of_ble_eq_true rfl) (Nat.le_of_ble_eq_true rfl) rfl rfl h (fun x13 H12 h => ?_)
        refine g_ls (ls' := [zR 32, zI l1, zI l2, zI l3, zI l4, zL x13, zJ, zJ, zJ]) zp80 rfl rfl (Nat.le_of_ble_eq_true rfl) rfl ?_
        refine g_ic zp80 rfl rfl ?_
        refine g_is (ls' := [zR 32, zI l1, zI l2, zI l3, zI l4, zL x13, zJ, zI 0, zJ]) zp80 rfl rfl (Nat.le_of_ble_eq_true rfl) rfl ?_
        refine g_il zp80 rfl rfl rfl ?_
        refine g_is (ls' := [zR 32, zI l1, zI l2, zI l3, zI l4, zL x13, zJ, zI 0, zI l2]) zp80 rfl rfl (Nat.le_of_ble_eq_true rfl) rfl ?_
        exact g_weak (ls' := [zR 32, zI l1, zJ, zI l3, zI l4, zL x13, zJ, zI 0, zI l2]) ⟨Or.inr rfl, Or.inr rfl, Or.inl rfl, Or.inr rfl, Or.inr rfl, Or.inr rfl, Or.inr rfl, Or.inr rfl, Or.inr rfl, trivial⟩ h
      · replace h := h.2 c11
        refine g_al zp80 rfl rfl rfl (by decide) ?_
        refine g_ic zp80 rfl rfl ?_
        refine g_callI (as := [zR 32, zI 1]) (rest := []) zp80 rfl rfl (Nat.succ_pos _) rfl rfl (Nat.le_of_ble_eq_true rfl) (Nat.le_of_ble_eq_true rfl) rfl rfl h (fun x15 H14 h => ?_)
        exact g_ret zp80 rfl rfl ⟨_, rfl, h⟩
theorem x80_46 {w : zWt} {d : Nat} {H : zHt} {K : Int → zHt → Prop} {l1 : Int} {l3 : Int} {l4 : Int} {l5 : Int} {l7 : Int} {l8 : Int}
    (h : (l3 < l8 → zclI w d 82 [zR 32, zI l4, zI l7] H (fun x3 H2 => K x3 H2)) ∧ (l8 ≤ l3 → (l8 = l1 → zgo w (d + 1) 80 46 [zR 32, zI l1, zJ, zI l3, zI l4, zL l5, zJ, zI l7, zI (w32 (l8 + 1))] [] H (zQI K)) ∧ (¬ l8 = l1 → zclL w d 69 [zR 36, zI l8] H (fun x6 H5 => ((w64 (x6 * l1)) = (w64 (l5 * l8)) → (¬ l7 = l4 → zgo w (d + 1) 80 46 [zR 32, zI l1, zJ, zI l3, zI l4, zL l5, zJ, zI (w32 (l7 + 1)), zI (w32 (l8 + 1))] [] H5 (zQI K)) ∧ (l7 = l4 → zclI w d 39 [zR 32, zI l8] H5 (fun x10 H9 => K x10 H9))) ∧ (¬ (w64 (x6 * l1)) = (w64 (l5 * l8)) → zgo w (d + 1) 80 46 [zR 32, zI l1, zJ, zI l3, zI l4, zL l5, zJ, zI l7, zI (w32 (l8 + 1))] [] H5 (zQI K)))))) :
    zgo w (d + 1) 80 46 [zR 32, zI l1, zJ, zI l3, zI l4, zL l5, zJ, zI l7, zI l8] [] H (zQI K) := by
  refine g_il zp80 rfl rfl rfl ?_
  refine g_il zp80 rfl rfl rfl ?_
  refine g_icmp zp80 rfl rfl zc4 (fun c1 => ?_) (fun c1 => ?_)
  · replace h := h.1 c1
    refine g_al zp80 rfl rfl rfl (by decide) ?_
    refine g_il zp80 rfl rfl rfl ?_
    refine g_il zp80 rfl rfl rfl ?_
    refine g_callI (as := [zR 32, zI l4, zI l7]) (rest := []) zp80 rfl rfl (Nat.succ_pos _) rfl rfl (Nat.le_of_ble_eq_true rfl) (Nat.le_of_ble_eq_true rfl) rfl rfl h (fun x3 H2 h => ?_)
    exact g_ret zp80 rfl rfl ⟨_, rfl, h⟩
  · replace h := h.2 c1
    refine g_il zp80 rfl rfl rfl ?_
    refine g_il zp80 rfl rfl rfl ?_
    refine g_icmp zp80 rfl rfl zc0 (fun c4 => ?_) (fun c4 => ?_)
    · replace h := h.1 c4
      refine g_inc (ls' := [zR 32, zI l1, zJ, zI l3, zI l4, zL l5, zJ, zI l7, zI (w32 (l8 + 1))]) zp80 rfl rfl rfl rfl ?_
      refine g_goto zp80 rfl ?_
      exact g_weak (ls' := [zR 32, zI l1, zJ, zI l3, zI l4, zL l5, zJ, zI l7, zI (w32 (l8 + 1))]) ⟨Or.inr rfl, Or.inr rfl, Or.inr rfl, Or.inr rfl, Or.inr rfl, Or.inr rfl, Or.inr rfl, Or.inr rfl, Or.inr rfl, trivial⟩ h
    · replace h := h.2 c4
      refine g_al zp80 rfl rfl rfl (by decide) ?_
      refine g_get (v := zR 36) zp80 rfl rfl rfl ⟨rfl, by decide, (by decide)⟩ rfl ?_
      refine g_il zp80 rfl rfl rfl ?_
      refine g_callL (as := [zR 36, zI l8]) (rest := []) zp80 rfl rfl (Nat.succ_pos _) rfl rfl (Nat.le_of_ble_eq_true rfl) (Nat.le_of_ble_eq_true rfl) rfl rfl h (fun x6 H5 h => ?_)
      refine g_il zp80 rfl rfl rfl ?_
      refine g_i2l zp80 rfl rfl ?_
      refine g_lar (r := w64 (x6 * l1)) zp80 rfl rfl rfl ?_
      refine g_ll zp80 rfl rfl rfl ?_
      refine g_il zp80 rfl rfl rfl ?_
      refine g_i2l zp80 rfl rfl ?_
      refine g_lar (r := w64 (l5 * l8)) zp80 rfl rfl rfl ?_
      refine g_lcmp zp80 rfl rfl rfl rfl zc0 (fun c7 => ?_) (fun c7 => ?_)
      · replace h := h.1 c7
        refine g_il zp80 rfl rfl rfl ?_
        refine g_il zp80 rfl rfl rfl ?_
        refine g_icmp zp80 rfl rfl zc1 (fun c8 => ?_) (fun c8 => ?_)
        · replace h := h.1 c8
          refine g_inc (ls' := [zR 32, zI l1, zJ, zI l3, zI l4, zL l5, zJ, zI (w32 (l7 + 1)), zI l8]) zp80 rfl rfl rfl rfl ?_
          refine g_inc (ls' := [zR 32, zI l1, zJ, zI l3, zI l4, zL l5, zJ, zI (w32 (l7 + 1)), zI (w32 (l8 + 1))]) zp80 rfl rfl rfl rfl ?_
          refine g_goto zp80 rfl ?_
          exact g_weak (ls' := [zR 32, zI l1, zJ, zI l3, zI l4, zL l5, zJ, zI (w32 (l7 + 1)), zI (w32 (l8 + 1))]) ⟨Or.inr rfl, Or.inr rfl, Or.inr rfl, Or.inr rfl, Or.inr rfl, Or.inr rfl, Or.inr rfl, Or.inr rfl, Or.inr rfl, trivial⟩ h
        · replace h := h.2 c8
          refine g_al zp80 rfl rfl rfl (by decide) ?_
          refine g_il zp80 rfl rfl rfl ?_
          refine g_callI (as := [zR 32, zI l8]) (rest := []) zp80 rfl rfl (Nat.succ_pos _) rfl rfl (Nat.le_of_ble_eq_true rfl) (Nat.le_of_ble_eq_true rfl) rfl rfl h (fun x10 H9 h => ?_)
          exact g_ret zp80 rfl rfl ⟨_, rfl, h⟩
      · replace h := h.2 c7
        refine g_goto zp80 rfl ?_
        refine g_inc (ls' := [zR 32, zI l1, zJ, zI l3, zI l4, zL l5, zJ, zI l7, zI (w32 (l8 + 1))]) zp80 rfl rfl rfl rfl ?_
        refine g_goto zp80 rfl ?_
        exact g_weak (ls' := [zR 32, zI l1, zJ, zI l3, zI l4, zL l5, zJ, zI l7, zI (w32 (l8 + 1))]) ⟨Or.inr rfl, Or.inr rfl, Or.inr rfl, Or.inr rfl, Or.inr rfl, Or.inr rfl, Or.inr rfl, Or.inr rfl, Or.inr rfl, trivial⟩ h
theorem zp81 : zprog.getD 81 [] = zk81 := rfl
theorem x81_0 {w : zWt} {d : Nat} {H : zHt} {K : Int → zHt → Prop} {l0 : Int} {l1 : Int} {l2 : Int}
    (h : zclI w d 43 [zI l0] H (fun x2 H1 => (x2 = 0 → K 0 H1) ∧ (¬ x2 = 0 → zclI w d 43 [zI l1] H1 (fun x5 H4 => (x5 = 0 → K 0 H4) ∧ (¬ x5 = 0 → (l1 < l0 → K 0 H4) ∧ (l0 ≤ l1 → (l2 < (w32 (l1 - l0)) → K 0 H4) ∧ ((w32 (l1 - l0)) ≤ l2 → K 1 H4))))))) :
    zclI w (d + 1) 81 [zI l0, zI l1, zI l2] H K := by
  show zgo w (d + 1) 81 0 [zI l0, zI l1, zI l2] [] H (zQI K)
  refine g_il zp81 rfl rfl rfl ?_
  refine g_callI (as := [zI l0]) (rest := []) zp81 rfl rfl (Nat.succ_pos _) rfl rfl (Nat.le_of_ble_eq_true rfl) (Nat.le_of_ble_eq_true rfl) rfl rfl h (fun x2 H1 h => ?_)
  refine g_if zp81 rfl rfl zc0 (fun c3 => ?_) (fun c3 => ?_)
  · replace h := h.1 c3
    refine g_ic zp81 rfl rfl ?_
    exact g_ret zp81 rfl (zret_b (by decide)) ⟨_, rfl, h⟩
  · replace h := h.2 c3
    refine g_il zp81 rfl rfl rfl ?_
    refine g_callI (as := [zI l1]) (rest := []) zp81 rfl rfl (Nat.succ_pos _) rfl rfl (Nat.le_of_ble_eq_true rfl) (Nat.le_of_ble_eq_true rfl) rfl rfl h (fun x5 H4 h => ?_)
    refine g_if zp81 rfl rfl zc0 (fun c6 => ?_) (fun c6 => ?_)
    · replace h := h.1 c6
      refine g_ic zp81 rfl rfl ?_
      exact g_ret zp81 rfl (zret_b (by decide)) ⟨_, rfl, h⟩
    · replace h := h.2 c6
      refine g_il zp81 rfl rfl rfl ?_
      refine g_il zp81 rfl rfl rfl ?_
      refine g_icmp zp81 rfl rfl zc2 (fun c7 => ?_) (fun c7 => ?_)
      · replace h := h.1 c7
        refine g_ic zp81 rfl rfl ?_
        exact g_ret zp81 rfl (zret_b (by decide)) ⟨_, rfl, h⟩
      · replace h := h.2 c7
        refine g_il zp81 rfl rfl rfl ?_
        refine g_il zp81 rfl rfl rfl ?_
        refine g_ar (r := w32 (l1 - l0)) zp81 rfl rfl rfl ?_
        refine g_il zp81 rfl rfl rfl ?_
        refine g_icmp zp81 rfl rfl zc4 (fun c8 => ?_) (fun c8 => ?_)
        · replace h := h.1 c8
          refine g_ic zp81 rfl rfl ?_
          exact g_ret zp81 rfl (zret_b (by decide)) ⟨_, rfl, h⟩
        · replace h := h.2 c8
          refine g_ic zp81 rfl rfl ?_
          refine g_goto zp81 rfl ?_
          exact g_ret zp81 rfl (zret_b (by decide)) ⟨_, rfl, h⟩
theorem zp82 : zprog.getD 82 [] = zk82 := rfl
theorem x82_0 {w : zWt} {d : Nat} {H : zHt} {K : Int → zHt → Prop} {l1 : Int} {l2 : Int}
    (h : (¬ l1 = (-1) → zclI w d 13 [zR 32, zI 5] H (fun x3 H2 => K x3 H2)) ∧ (l1 = (-1) → zclI w d 39 [zR 32, zI l2] H (fun x5 H4 => K x5 H4))) :
    zclI w (d + 1) 82 [zR 32, zI l1, zI l2] H K := by
  show zgo w (d + 1) 82 0 [zR 32, zI l1, zI l2] [] H (zQI K)
  refine g_il zp82 rfl rfl rfl ?_
  refine g_ic zp82 rfl rfl ?_
  refine g_icmp zp82 rfl rfl zc1 (fun c1 => ?_) (fun c1 => ?_)
  · replace h := h.1 c1
    refine g_al zp82 rfl rfl rfl (by decide) ?_
    refine g_ic zp82 rfl rfl ?_
    refine g_callI (as := [zR 32, zI 5]) (rest := []) zp82 rfl rfl (Nat.succ_pos _) rfl rfl (Nat.le_of_ble_eq_true rfl) (Nat.le_of_ble_eq_true rfl) rfl rfl h (fun x3 H2 h => ?_)
    exact g_ret zp82 rfl rfl ⟨_, rfl, h⟩
  · replace h := h.2 c1
    refine g_al zp82 rfl rfl rfl (by decide) ?_
    refine g_il zp82 rfl rfl rfl ?_
    refine g_callI (as := [zR 32, zI l2]) (rest := []) zp82 rfl rfl (Nat.succ_pos _) rfl rfl (Nat.le_of_ble_eq_true rfl) (Nat.le_of_ble_eq_true rfl) rfl rfl h (fun x5 H4 h => ?_)
    refine g_goto zp82 rfl ?_
    exact g_ret zp82 rfl rfl ⟨_, rfl, h⟩
theorem zp83 : zprog.getD 83 [] = zk83 := rfl
theorem x83_0 {w : zWt} {d : Nat} {H : zHt} {K : Int → zHt → Prop} {l1 : Int} {l2 : Int} {l3 : Int}
    (h : zclI w d 81 [zI l1, zI l2, zI 200] H (fun x2 H1 => (x2 = 0 → zclI w d 13 [zR 32, zI 1] H1 (fun x5 H4 => K x5 H4)) ∧ (¬ x2 = 0 → zclI w d 44 [zI l3, zI 2] H1 (fun x7 H6 => (¬ x7 = 0 → zgo w (d + 1) 83 35 [zR 32, zI l1, zJ, zI l3, zI (w32 ((w32 (l2 - l1)) + 1)), zI 0, zJ, zJ, zJ, zJ, zJ] [] H6 (zQI K)) ∧ (x7 = 0 → zclI w d 13 [zR 32, zI 1] H6 (fun x10 H9 => K x10 H9)))))) :
    zclI w (d + 1) 83 [zR 32, zI l1, zI l2, zI l3] H K := by
  show zgo w (d + 1) 83 0 [zR 32, zI l1, zI l2, zI l3, zJ, zJ, zJ, zJ, zJ, zJ, zJ] [] H (zQI K)
  refine g_il zp83 rfl rfl rfl ?_
  refine g_il zp83 rfl rfl rfl ?_
  refine g_ic zp83 rfl rfl ?_
  refine g_callI (as := [zI l1, zI l2, zI 200]) (rest := []) zp83 rfl rfl (Nat.succ_pos _) rfl rfl (Nat.le_of_ble_eq_true rfl) (Nat.le_of_ble_eq_true rfl) rfl rfl h (fun x2 H1 h => ?_)
  refine g_if zp83 rfl rfl zc0 (fun c3 => ?_) (fun c3 => ?_)
  · replace h := h.1 c3
    refine g_al zp83 rfl rfl rfl (by decide) ?_
    refine g_ic zp83 rfl rfl ?_
    refine g_callI (as := [zR 32, zI 1]) (rest := []) zp83 rfl rfl (Nat.succ_pos _) rfl rfl (Nat.le_of_ble_eq_true rfl) (Nat.le_of_ble_eq_true rfl) rfl rfl h (fun x5 H4 h => ?_)
    exact g_ret zp83 rfl rfl ⟨_, rfl, h⟩
  · replace h := h.2 c3
    refine g_il zp83 rfl rfl rfl ?_
    refine g_ic zp83 rfl rfl ?_
    refine g_callI (as := [zI l3, zI 2]) (rest := []) zp83 rfl rfl (Nat.succ_pos _) rfl rfl (Nat.le_of_ble_eq_true rfl) (Nat.le_of_ble_eq_true rfl) rfl rfl h (fun x7 H6 h => ?_)
    refine g_if zp83 rfl rfl zc1 (fun c8 => ?_) (fun c8 => ?_)
    · replace h := h.1 c8
      refine g_il zp83 rfl rfl rfl ?_
      refine g_il zp83 rfl rfl rfl ?_
      refine g_ar (r := w32 (l2 - l1)) zp83 rfl rfl rfl ?_
      refine g_ic zp83 rfl rfl ?_
      refine g_ar (r := w32 ((w32 (l2 - l1)) + 1)) zp83 rfl rfl rfl ?_
      refine g_is (ls' := [zR 32, zI l1, zI l2, zI l3, zI (w32 ((w32 (l2 - l1)) + 1)), zJ, zJ, zJ, zJ, zJ, zJ]) zp83 rfl rfl (Nat.le_of_ble_eq_true rfl) rfl ?_
      refine g_ic zp83 rfl rfl ?_
      refine g_is (ls' := [zR 32, zI l1, zI l2, zI l3, zI (w32 ((w32 (l2 - l1)) + 1)), zI 0, zJ, zJ, zJ, zJ, zJ]) zp83 rfl rfl (Nat.le_of_ble_eq_true rfl) rfl ?_
      exact g_weak (ls' := [zR 32, zI l1, zJ, zI l3, zI (w32 ((w32 (l2 - l1)) + 1)), zI 0, zJ, zJ, zJ, zJ, zJ]) ⟨Or.inr rfl, Or.inr rfl, Or.inl rfl, Or.inr rfl, Or.inr rfl, Or.inr rfl, Or.inr rfl, Or.inr rfl, Or.inr rfl, Or.inr rfl, Or.inr rfl, trivial⟩ h
    · replace h := h.2 c8
      refine g_al zp83 rfl rfl rfl (by decide) ?_
      refine g_ic zp83 rfl rfl ?_
      refine g_callI (as := [zR 32, zI 1]) (rest := []) zp83 rfl rfl (Nat.succ_pos _) rfl rfl (Nat.le_of_ble_eq_true rfl) (Nat.le_of_ble_eq_true rfl) rfl rfl h (fun x10 H9 h => ?_)
      exact g_ret zp83 rfl rfl ⟨_, rfl, h⟩
theorem x83_35 {w : zWt} {d : Nat} {H : zHt} {K : Int → zHt → Prop} {l1 : Int} {l3 : Int} {l4 : Int} {l5 : Int}
    (h : (l4 ≤ l5 → zgo w (d + 1) 83 91 [zR 32, zI l1, zJ, zI l3, zI l4, zI 0, zI 0, zI 0, zI 0, zI 0, zJ] [] H (zQI K)) ∧ (l5 < l4 → (501 ≤ l5 → zgo w (d + 1) 83 91 [zR 32, zI l1, zJ, zI l3, zI l4, zI 0, zI 0, zI 0, zI 0, zI 0, zJ] [] H (zQI K)) ∧ (l5 < 501 → zclL w d 69 [zR 36, zI (w32 (l1 + l5))] H (fun x4 H3 => (0 ≤ l5 ∧ l5 < 501) ∧ zgo w (d + 1) 83 35 [zR 32, zI l1, zJ, zI l3, zI l4, zI (w32 (l5 + 1)), zJ, zJ, zJ, zJ, zJ] [] (zup H3 50 l5 x4) (zQI K))))) :
    zgo w (d + 1) 83 35 [zR 32, zI l1, zJ, zI l3, zI l4, zI l5, zJ, zJ, zJ, zJ, zJ] [] H (zQI K) := by
  refine g_il zp83 rfl rfl rfl ?_
  refine g_il zp83 rfl rfl rfl ?_
  refine g_icmp zp83 rfl rfl zc3 (fun c1 => ?_) (fun c1 => ?_)
  · replace h := h.1 c1
    refine g_ic zp83 rfl rfl ?_
    refine g_is (ls' := [zR 32, zI l1, zJ, zI l3, zI l4, zI 0, zJ, zJ, zJ, zJ, zJ]) zp83 rfl rfl (Nat.le_of_ble_eq_true rfl) rfl ?_
    refine g_ic zp83 rfl rfl ?_
    refine g_is (ls' := [zR 32, zI l1, zJ, zI l3, zI l4, zI 0, zI 0, zJ, zJ, zJ, zJ]) zp83 rfl rfl (Nat.le_of_ble_eq_true rfl) rfl ?_
    refine g_ic zp83 rfl rfl ?_
    refine g_is (ls' := [zR 32, zI l1, zJ, zI l3, zI l4, zI 0, zI 0, zI 0, zJ, zJ, zJ]) zp83 rfl rfl (Nat.le_of_ble_eq_true rfl) rfl ?_
    refine g_ic zp83 rfl rfl ?_
    refine g_is (ls' := [zR 32, zI l1, zJ, zI l3, zI l4, zI 0, zI 0, zI 0, zI 0, zJ, zJ]) zp83 rfl rfl (Nat.le_of_ble_eq_true rfl) rfl ?_
    refine g_ic zp83 rfl rfl ?_
    refine g_is (ls' := [zR 32, zI l1, zJ, zI l3, zI l4, zI 0, zI 0, zI 0, zI 0, zI 0, zJ]) zp83 rfl rfl (Nat.le_of_ble_eq_true rfl) rfl ?_
    exact g_weak (ls' := [zR 32, zI l1, zJ, zI l3, zI l4, zI 0, zI 0, zI 0, zI 0, zI 0, zJ]) ⟨Or.inr rfl, Or.inr rfl, Or.inr rfl, Or.inr rfl, Or.inr rfl, Or.inr rfl, Or.inr rfl, Or.inr rfl, Or.inr rfl, Or.inr rfl, Or.inr rfl, trivial⟩ h
  · replace h := h.2 c1
    refine g_il zp83 rfl rfl rfl ?_
    refine g_al zp83 rfl rfl rfl (by decide) ?_
    refine g_get (v := zR 50) zp83 rfl rfl rfl ⟨rfl, by decide, (by decide)⟩ rfl ?_
    refine g_len zp83 rfl rfl rfl (by decide) ?_
    refine g_icmp zp83 rfl rfl zc3 (fun c2 => ?_) (fun c2 => ?_)
    · replace h := h.1 c2
      refine g_ic zp83 rfl rfl ?_
      refine g_is (ls' := [zR 32, zI l1, zJ, zI l3, zI l4, zI 0, zJ, zJ, zJ, zJ, zJ]) zp83 rfl rfl (Nat.le_of_ble_eq_true rfl) rfl ?_
      refine g_ic zp83 rfl rfl ?_
      refine g_is (ls' := [zR 32, zI l1, zJ, zI l3, zI l4, zI 0, zI 0, zJ, zJ, zJ, zJ]) zp83 rfl rfl (Nat.le_of_ble_eq_true rfl) rfl ?_
      refine g_ic zp83 rfl rfl ?_
      refine g_is (ls' := [zR 32, zI l1, zJ, zI l3, zI l4, zI 0, zI 0, zI 0, zJ, zJ, zJ]) zp83 rfl rfl (Nat.le_of_ble_eq_true rfl) rfl ?_
      refine g_ic zp83 rfl rfl ?_
      refine g_is (ls' := [zR 32, zI l1, zJ, zI l3, zI l4, zI 0, zI 0, zI 0, zI 0, zJ, zJ]) zp83 rfl rfl (Nat.le_of_ble_eq_true rfl) rfl ?_
      refine g_ic zp83 rfl rfl ?_
      refine g_is (ls' := [zR 32, zI l1, zJ, zI l3, zI l4, zI 0, zI 0, zI 0, zI 0, zI 0, zJ]) zp83 rfl rfl (Nat.le_of_ble_eq_true rfl) rfl ?_
      exact g_weak (ls' := [zR 32, zI l1, zJ, zI l3, zI l4, zI 0, zI 0, zI 0, zI 0, zI 0, zJ]) ⟨Or.inr rfl, Or.inr rfl, Or.inr rfl, Or.inr rfl, Or.inr rfl, Or.inr rfl, Or.inr rfl, Or.inr rfl, Or.inr rfl, Or.inr rfl, Or.inr rfl, trivial⟩ h
    · replace h := h.2 c2
      refine g_al zp83 rfl rfl rfl (by decide) ?_
      refine g_get (v := zR 50) zp83 rfl rfl rfl ⟨rfl, by decide, (by decide)⟩ rfl ?_
      refine g_il zp83 rfl rfl rfl ?_
      refine g_al zp83 rfl rfl rfl (by decide) ?_
      refine g_get (v := zR 36) zp83 rfl rfl rfl ⟨rfl, by decide, (by decide)⟩ rfl ?_
      refine g_il zp83 rfl rfl rfl ?_
      refine g_il zp83 rfl rfl rfl ?_
      refine g_ar (r := w32 (l1 + l5)) zp83 rfl rfl rfl ?_
      refine g_callL (as := [zR 36, zI (w32 (l1 + l5))]) (rest := [zI l5, zR 50]) zp83 rfl rfl (Nat.succ_pos _) rfl rfl (Nat.le_of_ble_eq_true rfl) (Nat.le_of_ble_eq_true rfl) rfl rfl h (fun x4 H3 h => ?_)
      obtain ⟨c5, h⟩ := h
      refine g_last zp83 rfl rfl rfl (by decide) rfl c5 ?_
      refine g_inc (ls' := [zR 32, zI l1, zJ, zI l3, zI l4, zI (w32 (l5 + 1)), zJ, zJ, zJ, zJ, zJ]) zp83 rfl rfl rfl rfl ?_
      refine g_goto zp83 rfl ?_
      exact g_weak (ls' := [zR 32, zI l1, zJ, zI l3, zI l4, zI (w32 (l5 + 1)), zJ, zJ, zJ, zJ, zJ]) ⟨Or.inr rfl, Or.inr rfl, Or.inr rfl, Or.inr rfl, Or.inr rfl, Or.inr rfl, Or.inr rfl, Or.inr rfl, Or.inr rfl, Or.inr rfl, Or.inr rfl, trivial⟩ h
theorem x83_91 {w : zWt} {d : Nat} {H : zHt} {K : Int → zHt → Prop} {l1 : Int} {l3 : Int} {l4 : Int} {l5 : Int} {l6 : Int} {l7 : Int} {l8 : Int} {l9 : Int}
    (h : (l4 ≤ l9 → (¬ l3 = 2 → (¬ l3 = 0 → zclI w d 39 [zR 32, zI l6] H (fun x5 H4 => K x5 H4)) ∧ (l3 = 0 → zclI w d 39 [zR 32, zI l5] H (fun x7 H6 => K x7 H6))) ∧ (l3 = 2 → (¬ l7 = 0 → zclI w d 39 [zR 32, zI l8] H (fun x10 H9 => K x10 H9)) ∧ (l7 = 0 → zclI w d 13 [zR 32, zI 5] H (fun x12 H11 => K x12 H11)))) ∧ (l9 < l4 → zclI w d 84 [zR 32, zI l1, zI l4, zI l9] H (fun x14 H13 => zclI w d 84 [zR 32, zI l1, zI l9, zI l9] H13 (fun x16 H15 => (¬ x16 = 0 → zgo w (d + 1) 83 124 [zR 32, zI l1, zJ, zI l3, zI l4, zI l5, zI l6, zI l7, zI l8, zI l9, zI x14] [] H15 (zQI K)) ∧ (x16 = 0 → zgo w (d + 1) 83 124 [zR 32, zI l1, zJ, zI l3, zI l4, zI (w32 (l5 + 1)), zI l6, zI l7, zI l8, zI l9, zI x14] [] H15 (zQI K)))))) :
    zgo w (d + 1) 83 91 [zR 32, zI l1, zJ, zI l3, zI l4, zI l5, zI l6, zI l7, zI l8, zI l9, zJ] [] H (zQI K) := by
  refine g_il zp83 rfl rfl rfl ?_
  refine g_il zp83 rfl rfl rfl ?_
  refine g_icmp zp83 rfl rfl zc3 (fun c1 => ?_) (fun c1 => ?_)
  · replace h := h.1 c1
    refine g_il zp83 rfl rfl rfl ?_
    refine g_ic zp83 rfl rfl ?_
    refine g_icmp zp83 rfl rfl zc1 (fun c2 => ?_) (fun c2 => ?_)
    · replace h := h.1 c2
      refine g_al zp83 rfl rfl rfl (by decide) ?_
      refine g_il zp83 rfl rfl rfl ?_
      refine g_if zp83 rfl rfl zc1 (fun c3 => ?_) (fun c3 => ?_)
      · replace h := h.1 c3
        refine g_il zp83 rfl rfl rfl ?_
        refine g_callI (as := [zR 32, zI l6]) (rest := []) zp83 rfl rfl (Nat.succ_pos _) rfl rfl (Nat.le_of_ble_eq_true rfl) (Nat.le_of_ble_eq_true rfl) rfl rfl h (fun x5 H4 h => ?_)
        exact g_ret zp83 rfl rfl ⟨_, rfl, h⟩
      · replace h := h.2 c3
        refine g_il zp83 rfl rfl rfl ?_
        refine g_goto zp83 rfl ?_
        refine g_callI (as := [zR 32, zI l5]) (rest := []) zp83 rfl rfl (Nat.succ_pos _) rfl rfl (Nat.le_of_ble_eq_true rfl) (Nat.le_of_ble_eq_true rfl) rfl rfl h (fun x7 H6 h => ?_)
        exact g_ret zp83 rfl rfl ⟨_, rfl, h⟩
    · replace h := h.2 c2
      refine g_il zp83 rfl rfl rfl ?_
      refine g_if zp83 rfl rfl zc1 (fun c8 => ?_) (fun c8 => ?_)
      · replace h := h.1 c8
        refine g_al zp83 rfl rfl rfl (by decide) ?_
        refine g_il zp83 rfl rfl rfl ?_
        refine g_callI (as := [zR 32, zI l8]) (rest := []) zp83 rfl rfl (Nat.succ_pos _) rfl rfl (Nat.le_of_ble_eq_true rfl) (Nat.le_of_ble_eq_true rfl) rfl rfl h (fun x10 H9 h => ?_)
        exact g_ret zp83 rfl rfl ⟨_, rfl, h⟩
      · replace h := h.2 c8
        refine g_al zp83 rfl rfl rfl (by decide) ?_
        refine g_ic zp83 rfl rfl ?_
        refine g_callI (as := [zR 32, zI 5]) (rest := []) zp83 rfl rfl (Nat.succ_pos _) rfl rfl (Nat.le_of_ble_eq_true rfl) (Nat.le_of_ble_eq_true rfl) rfl rfl h (fun x12 H11 h => ?_)
        refine g_goto zp83 rfl ?_
        exact g_ret zp83 rfl rfl ⟨_, rfl, h⟩
  · replace h := h.2 c1
    refine g_al zp83 rfl rfl rfl (by decide) ?_
    refine g_il zp83 rfl rfl rfl ?_
    refine g_il zp83 rfl rfl rfl ?_
    refine g_il zp83 rfl rfl rfl ?_
    refine g_callI (as := [zR 32, zI l1, zI l4, zI l9]) (rest := []) zp83 rfl rfl (Nat.succ_pos _) rfl rfl (Nat.le_of_ble_eq_true rfl) (Nat.le_of_ble_eq_true rfl) rfl rfl h (fun x14 H13 h => ?_)
    refine g_is (ls' := [zR 32, zI l1, zJ, zI l3, zI l4, zI l5, zI l6, zI l7, zI l8, zI l9, zI x14]) zp83 rfl rfl (Nat.le_of_ble_eq_true rfl) rfl ?_
    refine g_al zp83 rfl rfl rfl (by decide) ?_
    refine g_il zp83 rfl rfl rfl ?_
    refine g_il zp83 rfl rfl rfl ?_
    refine g_il zp83 rfl rfl rfl ?_
    refine g_callI (as := [zR 32, zI l1, zI l9, zI l9]) (rest := []) zp83 rfl rfl (Nat.succ_pos _) rfl rfl (Nat.le_of_ble_eq_true rfl) (Nat.le_of_ble_eq_true rfl) rfl rfl h (fun x16 H15 h => ?_)
    refine g_if zp83 rfl rfl zc1 (fun c17 => ?_) (fun c17 => ?_)
    · replace h := h.1 c17
      exact g_weak (ls' := [zR 32, zI l1, zJ, zI l3, zI l4, zI l5, zI l6, zI l7, zI l8, zI l9, zI x14]) ⟨Or.inr rfl, Or.inr rfl, Or.inr rfl, Or.inr rfl, Or.inr rfl, Or.inr rfl, Or.inr rfl, Or.inr rfl, Or.inr rfl, Or.inr rfl, Or.inr rfl, trivial⟩ h
    · replace h := h.2 c17
      refine g_inc (ls' := [zR 32, zI l1, zJ, zI l3, zI l4, zI (w32 (l5 + 1)), zI l6, zI l7, zI l8, zI l9, zI x14]) zp83 rfl rfl rfl rfl ?_
      exact g_weak (ls' := [zR 32, zI l1, zJ, zI l3, zI l4, zI (w32 (l5 + 1)), zI l6, zI l7, zI l8, zI l9, zI x14]) ⟨Or.inr rfl, Or.inr rfl, Or.inr rfl, Or.inr rfl, Or.inr rfl, Or.inr rfl, Or.inr rfl, Or.inr rfl, Or.inr rfl, Or.inr rfl, Or.inr rfl, trivial⟩ h
theorem x83_124 {w : zWt} {d : Nat} {H : zHt} {K : Int → zHt → Prop} {l1 : Int} {l3 : Int} {l4 : Int} {l5 : Int} {l6 : Int} {l7 : Int} {l8 : Int} {l9 : Int} {l10 : Int}
    (h : (l10 ≤ 0 → (l10 ≤ l7 → zgo w (d + 1) 83 91 [zR 32, zI l1, zJ, zI l3, zI l4, zI l5, zI l6, zI l7, zI l8, zI (w32 (l9 + 1)), zJ] [] H (zQI K)) ∧ (l7 < l10 → zgo w (d + 1) 83 91 [zR 32, zI l1, zJ, zI l3, zI l4, zI l5, zI l6, zI l10, zI (w32 (l1 + l9)), zI (w32 (l9 + 1)), zJ] [] H (zQI K))) ∧ (0 < l10 → (l10 ≤ l7 → zgo w (d + 1) 83 91 [zR 32, zI l1, zJ, zI l3, zI l4, zI l5, zI (w32 (l6 + 1)), zI l7, zI l8, zI (w32 (l9 + 1)), zJ] [] H (zQI K)) ∧ (l7 < l10 → zgo w (d + 1) 83 91 [zR 32, zI l1, zJ, zI l3, zI l4, zI l5, zI (w32 (l6 + 1)), zI l10, zI (w32 (l1 + l9)), zI (w32 (l9 + 1)), zJ] [] H (zQI K)))) :
    zgo w (d + 1) 83 124 [zR 32, zI l1, zJ, zI l3, zI l4, zI l5, zI l6, zI l7, zI l8, zI l9, zI l10] [] H (zQI K) := by
  refine g_il zp83 rfl rfl rfl ?_
  refine g_if zp83 rfl rfl zc5 (fun c1 => ?_) (fun c1 => ?_)
  · replace h := h.1 c1
    refine g_il zp83 rfl rfl rfl ?_
    refine g_il zp83 rfl rfl rfl ?_
    refine g_icmp zp83 rfl rfl zc5 (fun c2 => ?_) (fun c2 => ?_)
    · replace h := h.1 c2
      refine g_inc (ls' := [zR 32, zI l1, zJ, zI l3, zI l4, zI l5, zI l6, zI l7, zI l8, zI (w32 (l9 + 1)), zI l10]) zp83 rfl rfl rfl rfl ?_
      refine g_goto zp83 rfl ?_
      exact g_weak (ls' := [zR 32, zI l1, zJ, zI l3, zI l4, zI l5, zI l6, zI l7, zI l8, zI (w32 (l9 + 1)), zJ]) ⟨Or.inr rfl, Or.inr rfl, Or.inr rfl, Or.inr rfl, Or.inr rfl, Or.inr rfl, Or.inr rfl, Or.inr rfl, Or.inr rfl, Or.inr rfl, Or.inl rfl, trivial⟩ h
    · replace h := h.2 c2
      refine g_il zp83 rfl rfl rfl ?_
      refine g_is (ls' := [zR 32, zI l1, zJ, zI l3, zI l4, zI l5, zI l6, zI l10, zI l8, zI l9, zI l10]) zp83 rfl rfl (Nat.le_of_ble_eq_true rfl) rfl ?_
      refine g_il zp83 rfl rfl rfl ?_
      refine g_il zp83 rfl rfl rfl ?_
      refine g_ar (r := w32 (l1 + l9)) zp83 rfl rfl rfl ?_
      refine g_is (ls' := [zR 32, zI l1, zJ, zI l3, zI l4, zI l5, zI l6, zI l10, zI (w32 (l1 + l9)), zI l9, zI l10]) zp83 rfl rfl (Nat.le_of_ble_eq_true rfl) rfl ?_
      refine g_inc (ls' := [zR 32, zI l1, zJ, zI l3, zI l4, zI l5, zI l6, zI l10, zI (w32 (l1 + l9)), zI (w32 (l9 + 1)), zI l10]) zp83 rfl rfl rfl rfl ?_
      refine g_goto zp83 rfl ?_
      exact g_weak (ls' := [zR 32, zI l1, zJ, zI l3, zI l4, zI l5, zI l6, zI l10, zI (w32 (l1 + l9)), zI (w32 (l9 + 1)), zJ]) ⟨Or.inr rfl, Or.inr rfl, Or.inr rfl, Or.inr rfl, Or.inr rfl, Or.inr rfl, Or.inr rfl, Or.inr rfl, Or.inr rfl, Or.inr rfl, Or.inl rfl, trivial⟩ h
  · replace h := h.2 c1
    refine g_inc (ls' := [zR 32, zI l1, zJ, zI l3, zI l4, zI l5, zI (w32 (l6 + 1)), zI l7, zI l8, zI l9, zI l10]) zp83 rfl rfl rfl rfl ?_
    refine g_il zp83 rfl rfl rfl ?_
    refine g_il zp83 rfl rfl rfl ?_
    refine g_icmp zp83 rfl rfl zc5 (fun c3 => ?_) (fun c3 => ?_)
    · replace h := h.1 c3
      refine g_inc (ls' := [zR 32, zI l1, zJ, zI l3, zI l4, zI l5, zI (w32 (l6 + 1)), zI l7, zI l8, zI (w32 (l9 + 1)), zI l10]) zp83 rfl rfl rfl rfl ?_
      refine g_goto zp83 rfl ?_
      exact g_weak (ls' := [zR 32, zI l1, zJ, zI l3, zI l4, zI l5, zI (w32 (l6 + 1)), zI l7, zI l8, zI (w32 (l9 + 1)), zJ]) ⟨Or.inr rfl, Or.inr rfl, Or.inr rfl, Or.inr rfl, Or.inr rfl, Or.inr rfl, Or.inr rfl, Or.inr rfl, Or.inr rfl, Or.inr rfl, Or.inl rfl, trivial⟩ h
    · replace h := h.2 c3
      refine g_il zp83 rfl rfl rfl ?_
      refine g_is (ls' := [zR 32, zI l1, zJ, zI l3, zI l4, zI l5, zI (w32 (l6 + 1)), zI l10, zI l8, zI l9, zI l10]) zp83 rfl rfl (Nat.le_of_ble_eq_true rfl) rfl ?_
      refine g_il zp83 rfl rfl rfl ?_
      refine g_il zp83 rfl rfl rfl ?_
      refine g_ar (r := w32 (l1 + l9)) zp83 rfl rfl rfl ?_
      refine g_is (ls' := [zR 32, zI l1, zJ, zI l3, zI l4, zI l5, zI (w32 (l6 + 1)), zI l10, zI (w32 (l1 + l9)), zI l9, zI l10]) zp83 rfl rfl (Nat.le_of_ble_eq_true rfl) rfl ?_
      refine g_inc (ls' := [zR 32, zI l1, zJ, zI l3, zI l4, zI l5, zI (w32 (l6 + 1)), zI l10, zI (w32 (l1 + l9)), zI (w32 (l9 + 1)), zI l10]) zp83 rfl rfl rfl rfl ?_
      refine g_goto zp83 rfl ?_
      exact g_weak (ls' := [zR 32, zI l1, zJ, zI l3, zI l4, zI l5, zI (w32 (l6 + 1)), zI l10, zI (w32 (l1 + l9)), zI (w32 (l9 + 1)), zJ]) ⟨Or.inr rfl, Or.inr rfl, Or.inr rfl, Or.inr rfl, Or.inr rfl, Or.inr rfl, Or.inr rfl, Or.inr rfl, Or.inr rfl, Or.inr rfl, Or.inl rfl, trivial⟩ h
