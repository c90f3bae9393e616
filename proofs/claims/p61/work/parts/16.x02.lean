/-! segments: what suffices for a run from there on (by wip/p61/gen3.py) -/
theorem zp49 : zprog.getD 49 [] = zk49 := rfl
theorem x49_0 {w : zWt} {d : Nat} {H : zHt} {K : Int → zHt → Prop} {l0 : Int} {l1 : Int} {l2 : Int}
    (h : zgo w d 49 9 [zJ, zJ, zI l2, zL 1, zJ, zL l0, zJ, zI l1] [] H (zQL K)) :
    zclL w d 49 [zI l0, zI l1, zI l2] H K := by
  show zgo w d 49 0 [zI l0, zI l1, zI l2, zJ, zJ, zJ, zJ, zJ] [] H (zQL K)
  refine g_lc zp49 rfl rfl ?_
  refine g_ls (ls' := [zI l0, zI l1, zI l2, zL 1, zJ, zJ, zJ, zJ]) zp49 rfl rfl (Nat.le_of_ble_eq_true rfl) rfl ?_
  refine g_il zp49 rfl rfl rfl ?_
  refine g_i2l zp49 rfl rfl ?_
  refine g_ls (ls' := [zI l0, zI l1, zI l2, zL 1, zJ, zL l0, zJ, zJ]) zp49 rfl rfl (Nat.le_of_ble_eq_true rfl) rfl ?_
  refine g_il zp49 rfl rfl rfl ?_
  refine g_is (ls' := [zI l0, zI l1, zI l2, zL 1, zJ, zL l0, zJ, zI l1]) zp49 rfl rfl (Nat.le_of_ble_eq_true rfl) rfl ?_
  exact g_weak (ls' := [zJ, zJ, zI l2, zL 1, zJ, zL l0, zJ, zI l1]) ⟨Or.inl rfl, Or.inl rfl, Or.inr rfl, Or.inr rfl, Or.inr rfl, Or.inr rfl, Or.inr rfl, Or.inr rfl, trivial⟩ h
theorem x49_9 {w : zWt} {d : Nat} {H : zHt} {K : Int → zHt → Prop} {l2 : Int} {l3 : Int} {l5 : Int} {l7 : Int}
    (h : (l7 ≤ 0 → K l3 H) ∧ (0 < l7 → (l2 ≤ 0 → K l3 H) ∧ (0 < l2 → ((Int.tmod l7 2) = 0 → (l2 ≠ 0) ∧ zgo w d 49 9 [zJ, zJ, zI l2, zL l3, zJ, zL (Int.tmod (w64 (l5 * l5)) l2), zJ, zI (w32 (Int.tdiv l7 2))] [] H (zQL K)) ∧ (¬ (Int.tmod l7 2) = 0 → (l2 ≠ 0) ∧ zgo w d 49 9 [zJ, zJ, zI l2, zL (Int.tmod (w64 (l3 * l5)) l2), zJ, zL (Int.tmod (w64 (l5 * l5)) l2), zJ, zI (w32 (Int.tdiv l7 2))] [] H (zQL K))))) :
    zgo w d 49 9 [zJ, zJ, zI l2, zL l3, zJ, zL l5, zJ, zI l7] [] H (zQL K) := by
  refine g_il zp49 rfl rfl rfl ?_
  refine g_if zp49 rfl rfl zc5 (fun c1 => ?_) (fun c1 => ?_)
  · replace h := h.1 c1
    refine g_ll zp49 rfl rfl rfl ?_
    exact g_ret zp49 rfl rfl ⟨_, rfl, h⟩
  · replace h := h.2 c1
    refine g_il zp49 rfl rfl rfl ?_
    refine g_if zp49 rfl rfl zc5 (fun c2 => ?_) (fun c2 => ?_)
    · replace h := h.1 c2
      refine g_ll zp49 rfl rfl rfl ?_
      exact g_ret zp49 rfl rfl ⟨_, rfl, h⟩
    · replace h := h.2 c2
      refine g_il zp49 rfl rfl rfl ?_
      refine g_ic zp49 rfl rfl ?_
      refine g_ar (r := Int.tmod l7 2) zp49 rfl rfl (zr_rem (by decide)) ?_
      refine g_if zp49 rfl rfl zc0 (fun c3 => ?_) (fun c3 => ?_)
      · replace h := h.1 c3
        refine g_ll zp49 rfl rfl rfl ?_
        refine g_ll zp49 rfl rfl rfl ?_
        refine g_lar (r := w64 (l5 * l5)) zp49 rfl rfl rfl ?_
        refine g_il zp49 rfl rfl rfl ?_
        refine g_i2l zp49 rfl rfl ?_
        obtain ⟨c4, h⟩ := h
        refine g_lar (r := Int.tmod (w64 (l5 * l5)) l2) zp49 rfl rfl (zr_lrem c4) ?_
        refine g_ls (ls' := [zJ, zJ, zI l2, zL l3, zJ, zL (Int.tmod (w64 (l5 * l5)) l2), zJ, zI l7]) zp49 rfl rfl (Nat.le_of_ble_eq_true rfl) rfl ?_
        refine g_il zp49 rfl rfl rfl ?_
        refine g_ic zp49 rfl rfl ?_
        refine g_ar (r := w32 (Int.tdiv l7 2)) zp49 rfl rfl (zr_div (by decide)) ?_
        refine g_is (ls' := [zJ, zJ, zI l2, zL l3, zJ, zL (Int.tmod (w64 (l5 * l5)) l2), zJ, zI (w32 (Int.tdiv l7 2))]) zp49 rfl rfl (Nat.le_of_ble_eq_true rfl) rfl ?_
        refine g_goto zp49 rfl ?_
        exact g_weak (ls' := [zJ, zJ, zI l2, zL l3, zJ, zL (Int.tmod (w64 (l5 * l5)) l2), zJ, zI (w32 (Int.tdiv l7 2))]) ⟨Or.inr rfl, Or.inr rfl, Or.inr rfl, Or.inr rfl, Or.inr rfl, Or.inr rfl, Or.inr rfl, Or.inr rfl, trivial⟩ h
      · replace h := h.2 c3
        refine g_ll zp49 rfl rfl rfl ?_
        refine g_ll zp49 rfl rfl rfl ?_
        refine g_lar (r := w64 (l3 * l5)) zp49 rfl rfl rfl ?_
        refine g_il zp49 rfl rfl rfl ?_
        refine g_i2l zp49 rfl rfl ?_
        obtain ⟨c5, h⟩ := h
        refine g_lar (r := Int.tmod (w64 (l3 * l5)) l2) zp49 rfl rfl (zr_lrem c5) ?_
        refine g_ls (ls' := [zJ, zJ, zI l2, zL (Int.tmod (w64 (l3 * l5)) l2), zJ, zL l5, zJ, zI l7]) zp49 rfl rfl (Nat.le_of_ble_eq_true rfl) rfl ?_
        refine g_ll zp49 rfl rfl rfl ?_
        refine g_ll zp49 rfl rfl rfl ?_
        refine g_lar (r := w64 (l5 * l5)) zp49 rfl rfl rfl ?_
        refine g_il zp49 rfl rfl rfl ?_
        refine g_i2l zp49 rfl rfl ?_
        refine g_lar (r := Int.tmod (w64 (l5 * l5)) l2) zp49 rfl rfl (zr_lrem c5) ?_
        refine g_ls (ls' := [zJ, zJ, zI l2, zL (Int.tmod (w64 (l3 * l5)) l2), zJ, zL (Int.tmod (w64 (l5 * l5)) l2), zJ, zI l7]) zp49 rfl rfl (Nat.le_of_ble_eq_true rfl) rfl ?_
        refine g_il zp49 rfl rfl rfl ?_
        refine g_ic zp49 rfl rfl ?_
        refine g_ar (r := w32 (Int.tdiv l7 2)) zp49 rfl rfl (zr_div (by decide)) ?_
        refine g_is (ls' := [zJ, zJ, zI l2, zL (Int.tmod (w64 (l3 * l5)) l2), zJ, zL (Int.tmod (w64 (l5 * l5)) l2), zJ, zI (w32 (Int.tdiv l7 2))]) zp49 rfl rfl (Nat.le_of_ble_eq_true rfl) rfl ?_
        refine g_goto zp49 rfl ?_
        exact g_weak (ls' := [zJ, zJ, zI l2, zL (Int.tmod (w64 (l3 * l5)) l2), zJ, zL (Int.tmod (w64 (l5 * l5)) l2), zJ, zI (w32 (Int.tdiv l7 2))]) ⟨Or.inr rfl, Or.inr rfl, Or.inr rfl, Or.inr rfl, Or.inr rfl, Or.inr rfl, Or.inr rfl, Or.inr rfl, trivial⟩ h
theorem zp50 : zprog.getD 50 [] = zk50 := rfl
theorem x50_0 {w : zWt} {d : Nat} {H : zHt} {K : Int → zHt → Prop} {l0 : Int}
    (h : zgo w d 50 4 [zI l0, zI 1009] [] H (zQI K)) :
    zclI w d 50 [zI l0] H K := by
  show zgo w d 50 0 [zI l0, zJ] [] H (zQI K)
  refine g_ic zp50 rfl rfl ?_
  refine g_is (ls' := [zI l0, zI 1009]) zp50 rfl rfl (Nat.le_of_ble_eq_true rfl) rfl ?_
  exact g_weak (ls' := [zI l0, zI 1009]) ⟨Or.inr rfl, Or.inr rfl, trivial⟩ h
theorem x50_4 {w : zWt} {d : Nat} {H : zHt} {K : Int → zHt → Prop} {l0 : Int} {l1 : Int}
    (h : (l1 ≠ 0) ∧ ((w32 (Int.tdiv l0 l1)) < l1 → K l0 H) ∧ (l1 ≤ (w32 (Int.tdiv l0 l1)) → (¬ (Int.tmod l0 l1) = 0 → ((w32 (l1 + 4)) ≠ 0) ∧ (¬ (Int.tmod l0 (w32 (l1 + 4))) = 0 → zgo w d 50 4 [zI l0, zI (w32 (l1 + 6))] [] H (zQI K)) ∧ ((Int.tmod l0 (w32 (l1 + 4))) = 0 → K (w32 (l1 + 4)) H)) ∧ ((Int.tmod l0 l1) = 0 → K l1 H))) :
    zgo w d 50 4 [zI l0, zI l1] [] H (zQI K) := by
  refine g_il zp50 rfl rfl rfl ?_
  refine g_il zp50 rfl rfl rfl ?_
  refine g_il zp50 rfl rfl rfl ?_
  obtain ⟨c1, h⟩ := h
  refine g_ar (r := w32 (Int.tdiv l0 l1)) zp50 rfl rfl (zr_div c1) ?_
  refine g_icmp zp50 rfl rfl zc4 (fun c2 => ?_) (fun c2 => ?_)
  · replace h := h.1 c2
    refine g_il zp50 rfl rfl rfl ?_
    exact g_ret zp50 rfl rfl ⟨_, rfl, h⟩
  · replace h := h.2 c2
    refine g_il zp50 rfl rfl rfl ?_
    refine g_il zp50 rfl rfl rfl ?_
    refine g_ar (r := Int.tmod l0 l1) zp50 rfl rfl (zr_rem c1) ?_
    refine g_if zp50 rfl rfl zc1 (fun c3 => ?_) (fun c3 => ?_)
    · replace h := h.1 c3
      refine g_il zp50 rfl rfl rfl ?_
      refine g_il zp50 rfl rfl rfl ?_
      refine g_ic zp50 rfl rfl ?_
      refine g_ar (r := w32 (l1 + 4)) zp50 rfl rfl rfl ?_
      obtain ⟨c4, h⟩ := h
      refine g_ar (r := Int.tmod l0 (w32 (l1 + 4))) zp50 rfl rfl (zr_rem c4) ?_
      refine g_if zp50 rfl rfl zc1 (fun c5 => ?_) (fun c5 => ?_)
      · replace h := h.1 c5
        refine g_inc (ls' := [zI l0, zI (w32 (l1 + 6))]) zp50 rfl rfl rfl rfl ?_
        refine g_goto zp50 rfl ?_
        exact g_weak (ls' := [zI l0, zI (w32 (l1 + 6))]) ⟨Or.inr rfl, Or.inr rfl, trivial⟩ h
      · replace h := h.2 c5
        refine g_il zp50 rfl rfl rfl ?_
        refine g_ic zp50 rfl rfl ?_
        refine g_ar (r := w32 (l1 + 4)) zp50 rfl rfl rfl ?_
        exact g_ret zp50 rfl rfl ⟨_, rfl, h⟩
    · replace h := h.2 c3
      refine g_il zp50 rfl rfl rfl ?_
      exact g_ret zp50 rfl rfl ⟨_, rfl, h⟩
theorem zp51 : zprog.getD 51 [] = zk51 := rfl
theorem x51_0 {w : zWt} {d : Nat} {H : zHt} {K : Int → zHt → Prop} {l1 : Int}
    (h : zclI w d 43 [zI l1] H (fun x2 H1 => (¬ x2 = 0 → zclL w d 52 [zR 32, zI l1] H1 (fun x5 H4 => zclL w d 60 [zR 32, zL x5] H4 (fun x7 H6 => K x7 H6))) ∧ (x2 = 0 → zclI w d 13 [zR 32, zI 1] H1 (fun x9 H8 => K x9 H8)))) :
    zclL w (d + 1) 51 [zR 32, zI l1] H K := by
  show zgo w (d + 1) 51 0 [zR 32, zI l1] [] H (zQL K)
  refine g_il zp51 rfl rfl rfl ?_
  refine g_callI (as := [zI l1]) (rest := []) zp51 rfl rfl (Nat.succ_pos _) rfl rfl (Nat.le_of_ble_eq_true rfl) (Nat.le_of_ble_eq_true rfl) rfl rfl h (fun x2 H1 h => ?_)
  refine g_if zp51 rfl rfl zc1 (fun c3 => ?_) (fun c3 => ?_)
  · replace h := h.1 c3
    refine g_al zp51 rfl rfl rfl (by decide) ?_
    refine g_al zp51 rfl rfl rfl (by decide) ?_
    refine g_il zp51 rfl rfl rfl ?_
    refine g_callL (as := [zR 32, zI l1]) (rest := [zR 32]) zp51 rfl rfl (Nat.succ_pos _) rfl rfl (Nat.le_of_ble_eq_true rfl) (Nat.le_of_ble_eq_true rfl) rfl rfl h (fun x5 H4 h => ?_)
    refine g_callL (as := [zR 32, zL x5]) (rest := []) zp51 rfl rfl (Nat.succ_pos _) rfl rfl (Nat.le_of_ble_eq_true rfl) (Nat.le_of_ble_eq_true rfl) rfl rfl h (fun x7 H6 h => ?_)
    exact g_ret zp51 rfl rfl ⟨_, rfl, h⟩
  · replace h := h.2 c3
    refine g_al zp51 rfl rfl rfl (by decide) ?_
    refine g_ic zp51 rfl rfl ?_
    refine g_callI (as := [zR 32, zI 1]) (rest := []) zp51 rfl rfl (Nat.succ_pos _) rfl rfl (Nat.le_of_ble_eq_true rfl) (Nat.le_of_ble_eq_true rfl) rfl rfl h (fun x9 H8 h => ?_)
    refine g_i2l zp51 rfl rfl ?_
    exact g_ret zp51 rfl rfl ⟨_, rfl, h⟩
theorem zp52 : zprog.getD 52 [] = zk52 := rfl
theorem x52_0 {w : zWt} {d : Nat} {H : zHt} {K : Int → zHt → Prop} {l1 : Int}
    (h : zclL w d 53 [zR 36, zI (H 40 4), zI l1] H (fun x2 H1 => K x2 H1)) :
    zclL w (d + 1) 52 [zR 32, zI l1] H K := by
  show zgo w (d + 1) 52 0 [zR 32, zI l1] [] H (zQL K)
  refine g_al zp52 rfl rfl rfl (by decide) ?_
  refine g_get (v := zR 36) zp52 rfl rfl rfl ⟨rfl, by decide, (by decide)⟩ rfl ?_
  refine g_al zp52 rfl rfl rfl (by decide) ?_
  refine g_get (v := zR 40) zp52 rfl rfl rfl ⟨rfl, by decide, (by decide)⟩ rfl ?_
  refine g_get (v := zI (H 40 4)) zp52 rfl rfl rfl ⟨rfl, by decide, (by decide)⟩ rfl ?_
  refine g_il zp52 rfl rfl rfl ?_
  refine g_callL (as := [zR 36, zI (H 40 4), zI l1]) (rest := []) zp52 rfl rfl (Nat.succ_pos _) rfl rfl (Nat.le_of_ble_eq_true rfl) (Nat.le_of_ble_eq_true rfl) rfl rfl h (fun x2 H1 h => ?_)
  exact g_ret zp52 rfl rfl ⟨_, rfl, h⟩
theorem zp53 : zprog.getD 53 [] = zk53 := rfl
theorem x53_0 {w : zWt} {d : Nat} {H : zHt} {K : Int → zHt → Prop} {l1 : Int} {l2 : Int}
    (h : (1 < l2 → zclV w d 45 [zR 36, zI l2] H (fun H2 => (¬ l1 = 1 → (¬ l1 = 3 → zclL w d 58 [zR 36] H2 (fun x7 H6 => (¬ l1 = 2 → K (w64 ((w64 (x7 - l2)) - 0)) H6) ∧ (l1 = 2 → K (w64 ((w64 (x7 - l2)) - 1)) H6))) ∧ (l1 = 3 → zclL w d 56 [zR 36] H2 (fun x10 H9 => zclI w d 57 [zR 36] H9 (fun x12 H11 => (x12 = 0 → K (w64 (x10 - 0)) H11) ∧ (¬ x12 = 0 → K (w64 (x10 - l2)) H11))))) ∧ (l1 = 1 → zclL w d 54 [zR 36] H2 (fun x15 H14 => K (w64 (x15 - l2)) H14)))) ∧ (l2 ≤ 1 → K 0 H)) :
    zclL w (d + 1) 53 [zR 36, zI l1, zI l2] H K := by
  show zgo w (d + 1) 53 0 [zR 36, zI l1, zI l2] [] H (zQL K)
  refine g_il zp53 rfl rfl rfl ?_
  refine g_ic zp53 rfl rfl ?_
  refine g_icmp zp53 rfl rfl zc4 (fun c1 => ?_) (fun c1 => ?_)
  · replace h := h.1 c1
    refine g_al zp53 rfl rfl rfl (by decide) ?_
    refine g_il zp53 rfl rfl rfl ?_
    refine g_callV (as := [zR 36, zI l2]) (rest := []) zp53 rfl rfl (Nat.succ_pos _) rfl rfl (Nat.le_of_ble_eq_true rfl) (Nat.le_of_ble_eq_true rfl) rfl rfl h (fun H2 h => ?_)
    refine g_il zp53 rfl rfl rfl ?_
    refine g_ic zp53 rfl rfl ?_
    refine g_icmp zp53 rfl rfl zc1 (fun c4 => ?_) (fun c4 => ?_)
    · replace h := h.1 c4
      refine g_il zp53 rfl rfl rfl ?_
      refine g_ic zp53 rfl rfl ?_
      refine g_icmp zp53 rfl rfl zc1 (fun c5 => ?_) (fun c5 => ?_)
      · replace h := h.1 c5
        refine g_al zp53 rfl rfl rfl (by decide) ?_
        refine g_callL (as := [zR 36]) (rest := []) zp53 rfl rfl (Nat.succ_pos _) rfl rfl (Nat.le_of_ble_eq_true rfl) (Nat.le_of_ble_eq_true rfl) rfl rfl h (fun x7 H6 h => ?_)
        refine g_il zp53 rfl rfl rfl ?_
        refine g_i2l zp53 rfl rfl ?_
        refine g_lar (r := w64 (x7 - l2)) zp53 rfl rfl rfl ?_
        refine g_il zp53 rfl rfl rfl ?_
        refine g_ic zp53 rfl rfl ?_
        refine g_icmp zp53 rfl rfl zc1 (fun c8 => ?_) (fun c8 => ?_)
        · replace h := h.1 c8
          refine g_ic zp53 rfl rfl ?_
          refine g_i2l zp53 rfl rfl ?_
          refine g_lar (r := w64 ((w64 (x7 - l2)) - 0)) zp53 rfl rfl rfl ?_
          exact g_ret zp53 rfl rfl ⟨_, rfl, h⟩
        · replace h := h.2 c8
          refine g_ic zp53 rfl rfl ?_
          refine g_goto zp53 rfl ?_
          refine g_i2l zp53 rfl rfl ?_
          refine g_lar (r := w64 ((w64 (x7 - l2)) - 1)) zp53 rfl rfl rfl ?_
          exact g_ret zp53 rfl rfl ⟨_, rfl, h⟩
      · replace h := h.2 c5
        refine g_al zp53 rfl rfl rfl (by decide) ?_
        refine g_callL (as := [zR 36]) (rest := []) zp53 rfl rfl (Nat.succ_pos _) rfl rfl (Nat.le_of_ble_eq_true rfl) (Nat.le_of_ble_eq_true rfl) rfl rfl h (fun x10 H9 h => ?_)
        refine g_al zp53 rfl rfl rfl (by decide) ?_
        refine g_callI (as := [zR 36]) (rest := [zL x10]) zp53 rfl rfl (Nat.succ_pos _) rfl rfl (Nat.le_of_ble_eq_true rfl) (Nat.le_of_ble_eq_true rfl) rfl rfl h (fun x12 H11 h => ?_)
        refine g_if zp53 rfl rfl zc0 (fun c13 => ?_) (fun c13 => ?_)
        · replace h := h.1 c13
          refine g_ic zp53 rfl rfl ?_
          refine g_i2l zp53 rfl rfl ?_
          refine g_lar (r := w64 (x10 - 0)) zp53 rfl rfl rfl ?_
          exact g_ret zp53 rfl rfl ⟨_, rfl, h⟩
        · replace h := h.2 c13
          refine g_il zp53 rfl rfl rfl ?_
          refine g_goto zp53 rfl ?_
          refine g_i2l zp53 rfl rfl ?_
          refine g_lar (r := w64 (x10 - l2)) zp53 rfl rfl rfl ?_
          exact g_ret zp53 rfl rfl ⟨_, rfl, h⟩
    · replace h := h.2 c4
      refine g_al zp53 rfl rfl rfl (by decide) ?_
      refine g_callL (as := [zR 36]) (rest := []) zp53 rfl rfl (Nat.succ_pos _) rfl rfl (Nat.le_of_ble_eq_true rfl) (Nat.le_of_ble_eq_true rfl) rfl rfl h (fun x15 H14 h => ?_)
      refine g_il zp53 rfl rfl rfl ?_
      refine g_i2l zp53 rfl rfl ?_
      refine g_lar (r := w64 (x15 - l2)) zp53 rfl rfl rfl ?_
      exact g_ret zp53 rfl rfl ⟨_, rfl, h⟩
  · replace h := h.2 c1
    refine g_lc zp53 rfl rfl ?_
    exact g_ret zp53 rfl rfl ⟨_, rfl, h⟩
theorem zp54 : zprog.getD 54 [] = zk54 := rfl
theorem x54_0 {w : zWt} {d : Nat} {H : zHt} {K : Int → zHt → Prop} 
    (h : zgo w (d + 1) 54 4 [zR 36, zL 1, zJ, zI 0] [] H (zQL K)) :
    zclL w (d + 1) 54 [zR 36] H K := by
  show zgo w (d + 1) 54 0 [zR 36, zJ, zJ, zJ] [] H (zQL K)
  refine g_lc zp54 rfl rfl ?_
  refine g_ls (ls' := [zR 36, zL 1, zJ, zJ]) zp54 rfl rfl (Nat.le_of_ble_eq_true rfl) rfl ?_
  refine g_ic zp54 rfl rfl ?_
  refine g_is (ls' := [zR 36, zL 1, zJ, zI 0]) zp54 rfl rfl (Nat.le_of_ble_eq_true rfl) rfl ?_
  exact g_weak (ls' := [zR 36, zL 1, zJ, zI 0]) ⟨Or.inr rfl, Or.inr rfl, Or.inr rfl, Or.inr rfl, trivial⟩ h
theorem x54_4 {w : zWt} {d : Nat} {H : zHt} {K : Int → zHt → Prop} {l1 : Int} {l3 : Int}
    (h : ((H 36 3) ≤ l3 → K l1 H) ∧ (l3 < (H 36 3) → (0 ≤ l3 ∧ l3 < 9) ∧ zclL w d 55 [zI (H 37 l3), zI (H 38 l3)] H (fun x4 H3 => zgo w (d + 1) 54 4 [zR 36, zL (w64 (l1 * (w64 (x4 + 1)))), zJ, zI (w32 (l3 + 1))] [] H3 (zQL K)))) :
    zgo w (d + 1) 54 4 [zR 36, zL l1, zJ, zI l3] [] H (zQL K) := by
  refine g_il zp54 rfl rfl rfl ?_
  refine g_al zp54 rfl rfl rfl (by decide) ?_
  refine g_get (v := zI (H 36 3)) zp54 rfl rfl rfl ⟨rfl, by decide, (by decide)⟩ rfl ?_
  refine g_icmp zp54 rfl rfl zc3 (fun c1 => ?_) (fun c1 => ?_)
  · replace h := h.1 c1
    refine g_ll zp54 rfl rfl rfl ?_
    exact g_ret zp54 rfl rfl ⟨_, rfl, h⟩
  · replace h := h.2 c1
    refine g_ll zp54 rfl rfl rfl ?_
    refine g_al zp54 rfl rfl rfl (by decide) ?_
    refine g_get (v := zR 37) zp54 rfl rfl rfl ⟨rfl, by decide, (by decide)⟩ rfl ?_
    refine g_il zp54 rfl rfl rfl ?_
    obtain ⟨c2, h⟩ := h
    refine g_ald (v := zI (H 37 l3)) zp54 rfl rfl rfl rfl c2 rfl ?_
    refine g_al zp54 rfl rfl rfl (by decide) ?_
    refine g_get (v := zR 38) zp54 rfl rfl rfl ⟨rfl, by decide, (by decide)⟩ rfl ?_
    refine g_il zp54 rfl rfl rfl ?_
    refine g_ald (v := zI (H 38 l3)) zp54 rfl rfl rfl rfl c2 rfl ?_
    refine g_callL (as := [zI (H 37 l3), zI (H 38 l3)]) (rest := [zL l1]) zp54 rfl rfl (Nat.succ_pos _) rfl rfl (Nat.le_of_ble_eq_true rfl) (Nat.le_of_ble_eq_true rfl) rfl rfl h (fun x4 H3 h => ?_)
    refine g_lc zp54 rfl rfl ?_
    refine g_lar (r := w64 (x4 + 1)) zp54 rfl rfl rfl ?_
    refine g_lar (r := w64 (l1 * (w64 (x4 + 1)))) zp54 rfl rfl rfl ?_
    refine g_ls (ls' := [zR 36, zL (w64 (l1 * (w64 (x4 + 1)))), zJ, zI l3]) zp54 rfl rfl (Nat.le_of_ble_eq_true rfl) rfl ?_
    refine g_inc (ls' := [zR 36, zL (w64 (l1 * (w64 (x4 + 1)))), zJ, zI (w32 (l3 + 1))]) zp54 rfl rfl rfl rfl ?_
    refine g_goto zp54 rfl ?_
    exact g_weak (ls' := [zR 36, zL (w64 (l1 * (w64 (x4 + 1)))), zJ, zI (w32 (l3 + 1))]) ⟨Or.inr rfl, Or.inr rfl, Or.inr rfl, Or.inr rfl, trivial⟩ h
theorem zp55 : zprog.getD 55 [] = zk55 := rfl
theorem x55_0 {w : zWt} {d : Nat} {H : zHt} {K : Int → zHt → Prop} {l0 : Int} {l1 : Int}
    (h : zgo w d 55 5 [zI l0, zI l1, zL 1, zJ, zI 0] [] H (zQL K)) :
    zclL w d 55 [zI l0, zI l1] H K := by
  show zgo w d 55 0 [zI l0, zI l1, zJ, zJ, zJ] [] H (zQL K)
  refine g_lc zp55 rfl rfl ?_
  refine g_ls (ls' := [zI l0, zI l1, zL 1, zJ, zJ]) zp55 rfl rfl (Nat.le_of_ble_eq_true rfl) rfl ?_
  refine g_ic zp55 rfl rfl ?_
  refine g_is (ls' := [zI l0, zI l1, zL 1, zJ, zI 0]) zp55 rfl rfl (Nat.le_of_ble_eq_true rfl) rfl ?_
  exact g_weak (ls' := [zI l0, zI l1, zL 1, zJ, zI 0]) ⟨Or.inr rfl, Or.inr rfl, Or.inr rfl, Or.inr rfl, Or.inr rfl, trivial⟩ h
theorem x55_5 {w : zWt} {d : Nat} {H : zHt} {K : Int → zHt → Prop} {l0 : Int} {l1 : Int} {l2 : Int} {l4 : Int}
    (h : (l1 ≤ l4 → K l2 H) ∧ (l4 < l1 → zgo w d 55 5 [zI l0, zI l1, zL (w64 (l2 * l0)), zJ, zI (w32 (l4 + 1))] [] H (zQL K))) :
    zgo w d 55 5 [zI l0, zI l1, zL l2, zJ, zI l4] [] H (zQL K) := by
  refine g_il zp55 rfl rfl rfl ?_
  refine g_il zp55 rfl rfl rfl ?_
  refine g_icmp zp55 rfl rfl zc3 (fun c1 => ?_) (fun c1 => ?_)
  · replace h := h.1 c1
    refine g_ll zp55 rfl rfl rfl ?_
    exact g_ret zp55 rfl rfl ⟨_, rfl, h⟩
  · replace h := h.2 c1
    refine g_ll zp55 rfl rfl rfl ?_
    refine g_il zp55 rfl rfl rfl ?_
    refine g_i2l zp55 rfl rfl ?_
    refine g_lar (r := w64 (l2 * l0)) zp55 rfl rfl rfl ?_
    refine g_ls (ls' := [zI l0, zI l1, zL (w64 (l2 * l0)), zJ, zI l4]) zp55 rfl rfl (Nat.le_of_ble_eq_true rfl) rfl ?_
    refine g_inc (ls' := [zI l0, zI l1, zL (w64 (l2 * l0)), zJ, zI (w32 (l4 + 1))]) zp55 rfl rfl rfl rfl ?_
    refine g_goto zp55 rfl ?_
    exact g_weak (ls' := [zI l0, zI l1, zL (w64 (l2 * l0)), zJ, zI (w32 (l4 + 1))]) ⟨Or.inr rfl, Or.inr rfl, Or.inr rfl, Or.inr rfl, Or.inr rfl, trivial⟩ h
theorem zp56 : zprog.getD 56 [] = zk56 := rfl
theorem x56_0 {w : zWt} {d : Nat} {H : zHt} {K : Int → zHt → Prop} 
    (h : zgo w d 56 4 [zR 36, zL 1, zJ, zI 0] [] H (zQL K)) :
    zclL w d 56 [zR 36] H K := by
  show zgo w d 56 0 [zR 36, zJ, zJ, zJ] [] H (zQL K)
  refine g_lc zp56 rfl rfl ?_
  refine g_ls (ls' := [zR 36, zL 1, zJ, zJ]) zp56 rfl rfl (Nat.le_of_ble_eq_true rfl) rfl ?_
  refine g_ic zp56 rfl rfl ?_
  refine g_is (ls' := [zR 36, zL 1, zJ, zI 0]) zp56 rfl rfl (Nat.le_of_ble_eq_true rfl) rfl ?_
  exact g_weak (ls' := [zR 36, zL 1, zJ, zI 0]) ⟨Or.inr rfl, Or.inr rfl, Or.inr rfl, Or.inr rfl, trivial⟩ h
theorem x56_4 {w : zWt} {d : Nat} {H : zHt} {K : Int → zHt → Prop} {l1 : Int} {l3 : Int}
    (h : ((H 36 3) ≤ l3 → K l1 H) ∧ (l3 < (H 36 3) → (0 ≤ l3 ∧ l3 < 9) ∧ zgo w d 56 4 [zR 36, zL (w64 (l1 * (w32 ((H 37 l3) + 1)))), zJ, zI (w32 (l3 + 1))] [] H (zQL K))) :
    zgo w d 56 4 [zR 36, zL l1, zJ, zI l3] [] H (zQL K) := by
  refine g_il zp56 rfl rfl rfl ?_
  refine g_al zp56 rfl rfl rfl (by decide) ?_
  refine g_get (v := zI (H 36 3)) zp56 rfl rfl rfl ⟨rfl, by decide, (by decide)⟩ rfl ?_
  refine g_icmp zp56 rfl rfl zc3 (fun c1 => ?_) (fun c1 => ?_)
  · replace h := h.1 c1
    refine g_ll zp56 rfl rfl rfl ?_
    exact g_ret zp56 rfl rfl ⟨_, rfl, h⟩
  · replace h := h.2 c1
    refine g_ll zp56 rfl rfl rfl ?_
    refine g_al zp56 rfl rfl rfl (by decide) ?_
    refine g_get (v := zR 37) zp56 rfl rfl rfl ⟨rfl, by decide, (by decide)⟩ rfl ?_
    refine g_il zp56 rfl rfl rfl ?_
    obtain ⟨c2, h⟩ := h
    refine g_ald (v := zI (H 37 l3)) zp56 rfl rfl rfl rfl c2 rfl ?_
    refine g_ic zp56 rfl rfl ?_
    refine g_ar (r := w32 ((H 37 l3) + 1)) zp56 rfl rfl rfl ?_
    refine g_i2l zp56 rfl rfl ?_
    refine g_lar (r := w64 (l1 * (w32 ((H 37 l3) + 1)))) zp56 rfl rfl rfl ?_
    refine g_ls (ls' := [zR 36, zL (w64 (l1 * (w32 ((H 37 l3) + 1)))), zJ, zI l3]) zp56 rfl rfl (Nat.le_of_ble_eq_true rfl) rfl ?_
    refine g_inc (ls' := [zR 36, zL (w64 (l1 * (w32 ((H 37 l3) + 1)))), zJ, zI (w32 (l3 + 1))]) zp56 rfl rfl rfl rfl ?_
    refine g_goto zp56 rfl ?_
    exact g_weak (ls' := [zR 36, zL (w64 (l1 * (w32 ((H 37 l3) + 1)))), zJ, zI (w32 (l3 + 1))]) ⟨Or.inr rfl, Or.inr rfl, Or.inr rfl, Or.inr rfl, trivial⟩ h
theorem zp57 : zprog.getD 57 [] = zk57 := rfl
theorem x57_0 {w : zWt} {d : Nat} {H : zHt} {K : Int → zHt → Prop} 
    (h : zgo w d 57 2 [zR 36, zI 0] [] H (zQI K)) :
    zclI w d 57 [zR 36] H K := by
  show zgo w d 57 0 [zR 36, zJ] [] H (zQI K)
  refine g_ic zp57 rfl rfl ?_
  refine g_is (ls' := [zR 36, zI 0]) zp57 rfl rfl (Nat.le_of_ble_eq_true rfl) rfl ?_
  exact g_weak (ls' := [zR 36, zI 0]) ⟨Or.inr rfl, Or.inr rfl, trivial⟩ h
theorem x57_2 {w : zWt} {d : Nat} {H : zHt} {K : Int → zHt → Prop} {l1 : Int}
    (h : ((H 36 3) ≤ l1 → K 1 H) ∧ (l1 < (H 36 3) → (0 ≤ l1 ∧ l1 < 9) ∧ ((H 38 l1) ≤ 1 → zgo w d 57 2 [zR 36, zI (w32 (l1 + 1))] [] H (zQI K)) ∧ (1 < (H 38 l1) → K 0 H))) :
    zgo w d 57 2 [zR 36, zI l1] [] H (zQI K) := by
  refine g_il zp57 rfl rfl rfl ?_
  refine g_al zp57 rfl rfl rfl (by decide) ?_
  refine g_get (v := zI (H 36 3)) zp57 rfl rfl rfl ⟨rfl, by decide, (by decide)⟩ rfl ?_
  refine g_icmp zp57 rfl rfl zc3 (fun c1 => ?_) (fun c1 => ?_)
  · replace h := h.1 c1
    refine g_ic zp57 rfl rfl ?_
    exact g_ret zp57 rfl (zret_b (by decide)) ⟨_, rfl, h⟩
  · replace h := h.2 c1
    refine g_al zp57 rfl rfl rfl (by decide) ?_
    refine g_get (v := zR 38) zp57 rfl rfl rfl ⟨rfl, by decide, (by decide)⟩ rfl ?_
    refine g_il zp57 rfl rfl rfl ?_
    obtain ⟨c2, h⟩ := h
    refine g_ald (v := zI (H 38 l1)) zp57 rfl rfl rfl rfl c2 rfl ?_
    refine g_ic zp57 rfl rfl ?_
    refine g_icmp zp57 rfl rfl zc5 (fun c3 => ?_) (fun c3 => ?_)
    · replace h := h.1 c3
      refine g_inc (ls' := [zR 36, zI (w32 (l1 + 1))]) zp57 rfl rfl rfl rfl ?_
      refine g_goto zp57 rfl ?_
      exact g_weak (ls' := [zR 36, zI (w32 (l1 + 1))]) ⟨Or.inr rfl, Or.inr rfl, trivial⟩ h
    · replace h := h.2 c3
      refine g_ic zp57 rfl rfl ?_
      exact g_ret zp57 rfl (zret_b (by decide)) ⟨_, rfl, h⟩
theorem zp58 : zprog.getD 58 [] = zk58 := rfl
theorem x58_0 {w : zWt} {d : Nat} {H : zHt} {K : Int → zHt → Prop} 
    (h : zgo w (d + 1) 58 4 [zR 36, zL 1, zJ, zI 0] [] H (zQL K)) :
    zclL w (d + 1) 58 [zR 36] H K := by
  show zgo w (d + 1) 58 0 [zR 36, zJ, zJ, zJ] [] H (zQL K)
  refine g_lc zp58 rfl rfl ?_
  refine g_ls (ls' := [zR 36, zL 1, zJ, zJ]) zp58 rfl rfl (Nat.le_of_ble_eq_true rfl) rfl ?_
  refine g_ic zp58 rfl rfl ?_
  refine g_is (ls' := [zR 36, zL 1, zJ, zI 0]) zp58 rfl rfl (Nat.le_of_ble_eq_true rfl) rfl ?_
  exact g_weak (ls' := [zR 36, zL 1, zJ, zI 0]) ⟨Or.inr rfl, Or.inr rfl, Or.inr rfl, Or.inr rfl, trivial⟩ h
theorem x58_4 {w : zWt} {d : Nat} {H : zHt} {K : Int → zHt → Prop} {l1 : Int} {l3 : Int}
    (h : ((H 36 3) ≤ l3 → K l1 H) ∧ (l3 < (H 36 3) → zclL w d 59 [zR 36, zI l3] H (fun x3 H2 => zgo w (d + 1) 58 4 [zR 36, zL (w64 (l1 * x3)), zJ, zI (w32 (l3 + 1))] [] H2 (zQL K)))) :
    zgo w (d + 1) 58 4 [zR 36, zL l1, zJ, zI l3] [] H (zQL K) := by
  refine g_il zp58 rfl rfl rfl ?_
  refine g_al zp58 rfl rfl rfl (by decide) ?_
  refine g_get (v := zI (H 36 3)) zp58 rfl rfl rfl ⟨rfl, by decide, (by decide)⟩ rfl ?_
  refine g_icmp zp58 rfl rfl zc3 (fun c1 => ?_) (fun c1 => ?_)
  · replace h := h.1 c1
    refine g_ll zp58 rfl rfl rfl ?_
    exact g_ret zp58 rfl rfl ⟨_, rfl, h⟩
  · replace h := h.2 c1
    refine g_ll zp58 rfl rfl rfl ?_
    refine g_al zp58 rfl rfl rfl (by decide) ?_
    refine g_il zp58 rfl rfl rfl ?_
    refine g_callL (as := [zR 36, zI l3]) (rest := [zL l1]) zp58 rfl rfl (Nat.succ_pos _) rfl rfl (Nat.le_of_ble_eq_true rfl) (Nat.le_of_ble_eq_true rfl) rfl rfl h (fun x3 H2 h => ?_)
    refine g_lar (r := w64 (l1 * x3)) zp58 rfl rfl rfl ?_
    refine g_ls (ls' := [zR 36, zL (w64 (l1 * x3)), zJ, zI l3]) zp58 rfl rfl (Nat.le_of_ble_eq_true rfl) rfl ?_
    refine g_inc (ls' := [zR 36, zL (w64 (l1 * x3)), zJ, zI (w32 (l3 + 1))]) zp58 rfl rfl rfl rfl ?_
    refine g_goto zp58 rfl ?_
    exact g_weak (ls' := [zR 36, zL (w64 (l1 * x3)), zJ, zI (w32 (l3 + 1))]) ⟨Or.inr rfl, Or.inr rfl, Or.inr rfl, Or.inr rfl, trivial⟩ h
theorem zp59 : zprog.getD 59 [] = zk59 := rfl
theorem x59_0 {w : zWt} {d : Nat} {H : zHt} {K : Int → zHt → Prop} {l1 : Int}
    (h : zgo w d 59 5 [zR 36, zI l1, zL 1, zJ, zI 0] [] H (zQL K)) :
    zclL w d 59 [zR 36, zI l1] H K := by
  show zgo w d 59 0 [zR 36, zI l1, zJ, zJ, zJ] [] H (zQL K)
  refine g_lc zp59 rfl rfl ?_
  refine g_ls (ls' := [zR 36, zI l1, zL 1, zJ, zJ]) zp59 rfl rfl (Nat.le_of_ble_eq_true rfl) rfl ?_
  refine g_ic zp59 rfl rfl ?_
  refine g_is (ls' := [zR 36, zI l1, zL 1, zJ, zI 0]) zp59 rfl rfl (Nat.le_of_ble_eq_true rfl) rfl ?_
  exact g_weak (ls' := [zR 36, zI l1, zL 1, zJ, zI 0]) ⟨Or.inr rfl, Or.inr rfl, Or.inr rfl, Or.inr rfl, Or.inr rfl, trivial⟩ h
theorem x59_5 {w : zWt} {d : Nat} {H : zHt} {K : Int → zHt → Prop} {l1 : Int} {l2 : Int} {l4 : Int}
    (h : (0 ≤ l1 ∧ l1 < 9) ∧ ((H 38 l1) ≤ l4 → K l2 H) ∧ (l4 < (H 38 l1) → zgo w d 59 5 [zR 36, zI l1, zL (w64 ((w64 (l2 * (H 37 l1))) + 1)), zJ, zI (w32 (l4 + 1))] [] H (zQL K))) :
    zgo w d 59 5 [zR 36, zI l1, zL l2, zJ, zI l4] [] H (zQL K) := by
  refine g_il zp59 rfl rfl rfl ?_
  refine g_al zp59 rfl rfl rfl (by decide) ?_
  refine g_get (v := zR 38) zp59 rfl rfl rfl ⟨rfl, by decide, (by decide)⟩ rfl ?_
  refine g_il zp59 rfl rfl rfl ?_
  obtain ⟨c1, h⟩ := h
  refine g_ald (v := zI (H 38 l1)) zp59 rfl rfl rfl rfl c1 rfl ?_
  refine g_icmp zp59 rfl rfl zc3 (fun c2 => ?_) (fun c2 => ?_)
  · replace h := h.1 c2
    refine g_ll zp59 rfl rfl rfl ?_
    exact g_ret zp59 rfl rfl ⟨_, rfl, h⟩
  · replace h := h.2 c2
    refine g_ll zp59 rfl rfl rfl ?_
    refine g_al zp59 rfl rfl rfl (by decide) ?_
    refine g_get (v := zR 37) zp59 rfl rfl rfl ⟨rfl, by decide, (by decide)⟩ rfl ?_
    refine g_il zp59 rfl rfl rfl ?_
    refine g_ald (v := zI (H 37 l1)) zp59 rfl rfl rfl rfl c1 rfl ?_
    refine g_i2l zp59 rfl rfl ?_
    refine g_lar (r := w64 (l2 * (H 37 l1))) zp59 rfl rfl rfl ?_
    refine g_lc zp59 rfl rfl ?_
    refine g_lar (r := w64 ((w64 (l2 * (H 37 l1))) + 1)) zp59 rfl rfl rfl ?_
    refine g_ls (ls' := [zR 36, zI l1, zL (w64 ((w64 (l2 * (H 37 l1))) + 1)), zJ, zI l4]) zp59 rfl rfl (Nat.le_of_ble_eq_true rfl) rfl ?_
    refine g_inc (ls' := [zR 36, zI l1, zL (w64 ((w64 (l2 * (H 37 l1))) + 1)), zJ, zI (w32 (l4 + 1))]) zp59 rfl rfl rfl rfl ?_
    refine g_goto zp59 rfl ?_
    exact g_weak (ls' := [zR 36, zI l1, zL (w64 ((w64 (l2 * (H 37 l1))) + 1)), zJ, zI (w32 (l4 + 1))]) ⟨Or.inr rfl, Or.inr rfl, Or.inr rfl, Or.inr rfl, Or.inr rfl, trivial⟩ h
theorem zp60 : zprog.getD 60 [] = zk60 := rfl
theorem x60_0 {w : zWt} {d : Nat} {H : zHt} {K : Int → zHt → Prop} {l1 : Int}
    (h : K l1 (zup H 32 14 0)) :
    zclL w d 60 [zR 32, zL l1] H K := by
  show zgo w d 60 0 [zR 32, zL l1, zJ] [] H (zQL K)
  refine g_al zp60 rfl rfl rfl (by decide) ?_
  refine g_ic zp60 rfl rfl ?_
  refine g_putI zp60 rfl rfl rfl ⟨rfl, by decide, (by decide)⟩ rfl rfl ?_
  refine g_ll zp60 rfl rfl rfl ?_
  exact g_ret zp60 rfl rfl ⟨_, rfl, h⟩
theorem zp61 : zprog.getD 61 [] = zk61 := rfl
theorem x61_0 {w : zWt} {d : Nat} {H : zHt} {K : Int → zHt → Prop} {l1 : Int}
    (h : zclI w d 43 [zI l1] H (fun x2 H1 => (¬ x2 = 0 → zclI w d 62 [zR 32, zI (H1 40 4), zI l1] H1 (fun x5 H4 => zclI w d 39 [zR 32, zI x5] H4 (fun x7 H6 => K x7 H6))) ∧ (x2 = 0 → zclI w d 13 [zR 32, zI 1] H1 (fun x9 H8 => K x9 H8)))) :
    zclI w (d + 1) 61 [zR 32, zI l1] H K := by
  show zgo w (d + 1) 61 0 [zR 32, zI l1] [] H (zQI K)
  refine g_il zp61 rfl rfl rfl ?_
  refine g_callI (as := [zI l1]) (rest := []) zp61 rfl rfl (Nat.succ_pos _) rfl rfl (Nat.le_of_ble_eq_true rfl) (Nat.le_of_ble_eq_true rfl) rfl rfl h (fun x2 H1 h => ?_)
  refine g_if zp61 rfl rfl zc1 (fun c3 => ?_) (fun c3 => ?_)
  · replace h := h.1 c3
    refine g_al zp61 rfl rfl rfl (by decide) ?_
    refine g_al zp61 rfl rfl rfl (by decide) ?_
    refine g_al zp61 rfl rfl rfl (by decide) ?_
    refine g_get (v := zR 40) zp61 rfl rfl rfl ⟨rfl, by decide, (by decide)⟩ rfl ?_
    refine g_get (v := zI (H1 40 4)) zp61 rfl rfl rfl ⟨rfl, by decide, (by decide)⟩ rfl ?_
    refine g_il zp61 rfl rfl rfl ?_
    refine g_callI (as := [zR 32, zI (H1 40 4), zI l1]) (rest := [zR 32]) zp61 rfl rfl (Nat.succ_pos _) rfl rfl (Nat.le_of_ble_eq_true rfl) (Nat.le_of_ble_eq_true rfl) rfl rfl h (fun x5 H4 h => ?_)
    refine g_callI (as := [zR 32, zI x5]) (rest := []) zp61 rfl rfl (Nat.succ_pos _) rfl rfl (Nat.le_of_ble_eq_true rfl) (Nat.le_of_ble_eq_true rfl) rfl rfl h (fun x7 H6 h => ?_)
    exact g_ret zp61 rfl rfl ⟨_, rfl, h⟩
  · replace h := h.2 c3
    refine g_al zp61 rfl rfl rfl (by decide) ?_
    refine g_ic zp61 rfl rfl ?_
    refine g_callI (as := [zR 32, zI 1]) (rest := []) zp61 rfl rfl (Nat.succ_pos _) rfl rfl (Nat.le_of_ble_eq_true rfl) (Nat.le_of_ble_eq_true rfl) rfl rfl h (fun x9 H8 h => ?_)
    exact g_ret zp61 rfl rfl ⟨_, rfl, h⟩
theorem zp62 : zprog.getD 62 [] = zk62 := rfl
theorem x62_0 {w : zWt} {d : Nat} {H : zHt} {K : Int → zHt → Prop} {l1 : Int} {l2 : Int}
    (h : zclL w d 53 [zR 36, zI l1, zI l2] H (fun x2 H1 => (¬ x2 = l2 → (l2 ≤ x2 → K 2 H1) ∧ (x2 < l2 → K 0 H1)) ∧ (x2 = l2 → K 1 H1))) :
    zclI w (d + 1) 62 [zR 32, zI l1, zI l2] H K := by
  show zgo w (d + 1) 62 0 [zR 32, zI l1, zI l2, zJ, zJ] [] H (zQI K)
  refine g_al zp62 rfl rfl rfl (by decide) ?_
  refine g_get (v := zR 36) zp62 rfl rfl rfl ⟨rfl, by decide, (by decide)⟩ rfl ?_
  refine g_il zp62 rfl rfl rfl ?_
  refine g_il zp62 rfl rfl rfl ?_
  refine g_callL (as := [zR 36, zI l1, zI l2]) (rest := []) zp62 rfl rfl (Nat.succ_pos _) rfl rfl (Nat.le_of_ble_eq_true rfl) (Nat.le_of_ble_eq_true rfl) rfl rfl h (fun x2 H1 h => ?_)
  refine g_ls (ls' := [zR 32, zI l1, zI l2, zL x2, zJ]) zp62 rfl rfl (Nat.le_of_ble_eq_true rfl) rfl ?_
  refine g_ll zp62 rfl rfl rfl ?_
  refine g_il zp62 rfl rfl rfl ?_
  refine g_i2l zp62 rfl rfl ?_
  refine g_lcmp zp62 rfl rfl rfl rfl zc1 (fun c3 => ?_) (fun c3 => ?_)
  · replace h := h.1 c3
    refine g_ll zp62 rfl rfl rfl ?_
    refine g_il zp62 rfl rfl rfl ?_
    refine g_i2l zp62 rfl rfl ?_
    refine g_lcmp zp62 rfl rfl rfl rfl zc3 (fun c4 => ?_) (fun c4 => ?_)
    · replace h := h.1 c4
      refine g_ic zp62 rfl rfl ?_
      exact g_ret zp62 rfl rfl ⟨_, rfl, h⟩
    · replace h := h.2 c4
      refine g_ic zp62 rfl rfl ?_
      refine g_goto zp62 rfl ?_
      exact g_ret zp62 rfl rfl ⟨_, rfl, h⟩
  · replace h := h.2 c3
    refine g_ic zp62 rfl rfl ?_
    exact g_ret zp62 rfl rfl ⟨_, rfl, h⟩
theorem zp63 : zprog.getD 63 [] = zk63 := rfl
theorem x63_0 {w : zWt} {d : Nat} {H : zHt} {K : Int → zHt → Prop} {l1 : Int} {l2 : Int}
    (h : zclI w d 43 [zI l1] H (fun x2 H1 => (x2 = 0 → zclI w d 13 [zR 32, zI 1] H1 (fun x5 H4 => K x5 H4)) ∧ (¬ x2 = 0 → zclI w d 44 [zI l2, zI 3] H1 (fun x7 H6 => (¬ x7 = 0 → ((Int.tmod l1 2) = 0 → (l2 < 0 ∨ 3 ≤ l2 → zclI w d 68 [zR 32, zI l1] H6 (fun x11 H10 => (x11 = 0 → zclI w d 39 [zR 32, zI 0] H10 (fun x14 H13 => K x14 H13)) ∧ (¬ x11 = 0 → zclI w d 39 [zR 32, zI 1] H10 (fun x16 H15 => K x16 H15)))) ∧ (l2 = 0 → zclI w d 64 [zI l1] H6 (fun x18 H17 => zclI w d 39 [zR 32, zI x18] H17 (fun x20 H19 => K x20 H19))) ∧ (l2 = 1 → zclI w d 67 [zI l1] H6 (fun x22 H21 => zclI w d 39 [zR 32, zI x22] H21 (fun x24 H23 => K x24 H23))) ∧ (l2 = 2 → zclI w d 65 [zI l1] H6 (fun x26 H25 => zclI w d 39 [zR 32, zI x26] H25 (fun x28 H27 => K x28 H27)))) ∧ (¬ (Int.tmod l1 2) = 0 → zclI w d 13 [zR 32, zI 5] H6 (fun x30 H29 => K x30 H29))) ∧ (x7 = 0 → zclI w d 13 [zR 32, zI 1] H6 (fun x32 H31 => K x32 H31)))))) :
    zclI w (d + 1) 63 [zR 32, zI l1, zI l2] H K := by
  show zgo w (d + 1) 63 0 [zR 32, zI l1, zI l2] [] H (zQI K)
  refine g_il zp63 rfl rfl rfl ?_
  refine g_callI (as := [zI l1]) (rest := []) zp63 rfl rfl (Nat.succ_pos _) rfl rfl (Nat.le_of_ble_eq_true rfl) (Nat.le_of_ble_eq_true rfl) rfl rfl h (fun x2 H1 h => ?_)
  refine g_if zp63 rfl rfl zc0 (fun c3 => ?_) (fun c3 => ?_)
  · replace h := h.1 c3
    refine g_al zp63 rfl rfl rfl (by decide) ?_
    refine g_ic zp63 rfl rfl ?_
    refine g_callI (as := [zR 32, zI 1]) (rest := []) zp63 rfl rfl (Nat.succ_pos _) rfl rfl (Nat.le_of_ble_eq_true rfl) (Nat.le_of_ble_eq_true rfl) rfl rfl h (fun x5 H4 h => ?_)
    exact g_ret zp63 rfl rfl ⟨_, rfl, h⟩
  · replace h := h.2 c3
    refine g_il zp63 rfl rfl rfl ?_
    refine g_ic zp63 rfl rfl ?_
    refine g_callI (as := [zI l2, zI 3]) (rest := []) zp63 rfl rfl (Nat.succ_pos _) rfl rfl (Nat.le_of_ble_eq_true rfl) (Nat.le_of_ble_eq_true rfl) rfl rfl h (fun x7 H6 h => ?_)
    refine g_if zp63 rfl rfl zc1 (fun c8 => ?_) (fun c8 => ?_)
    · replace h := h.1 c8
      refine g_il zp63 rfl rfl rfl ?_
      refine g_ic zp63 rfl rfl ?_
      refine g_ar (r := Int.tmod l1 2) zp63 rfl rfl (zr_rem (by decide)) ?_
      refine g_if zp63 rfl rfl zc0 (fun c9 => ?_) (fun c9 => ?_)
      · replace h := h.1 c9
        refine g_il zp63 rfl rfl rfl ?_
        rcases Classical.em (l2 < 0 ∨ 3 ≤ l2) with c | c
        · refine g_tabO zp63 rfl c ?_
          replace h := h.1 c
          refine g_al zp63 rfl rfl rfl (by decide) ?_
          refine g_al zp63 rfl rfl rfl (by decide) ?_
          refine g_il zp63 rfl rfl rfl ?_
          refine g_callI (as := [zR 32, zI l1]) (rest := [zR 32]) zp63 rfl rfl (Nat.succ_pos _) rfl rfl (Nat.le_of_ble_eq_true rfl) (Nat.le_of_ble_eq_true rfl) rfl rfl h (fun x11 H10 h => ?_)
          refine g_if zp63 rfl rfl zc0 (fun c12 => ?_) (fun c12 => ?_)
          · replace h := h.1 c12
            refine g_ic zp63 rfl rfl ?_
            refine g_callI (as := [zR 32, zI 0]) (rest := []) zp63 rfl rfl (Nat.succ_pos _) rfl rfl (Nat.le_of_ble_eq_true rfl) (Nat.le_of_ble_eq_true rfl) rfl rfl h (fun x14 H13 h => ?_)
            exact g_ret zp63 rfl rfl ⟨_, rfl, h⟩
          · replace h := h.2 c12
            refine g_ic zp63 rfl rfl ?_
            refine g_goto zp63 rfl ?_
            refine g_callI (as := [zR 32, zI 1]) (rest := []) zp63 rfl rfl (Nat.succ_pos _) rfl rfl (Nat.le_of_ble_eq_true rfl) (Nat.le_of_ble_eq_true rfl) rfl rfl h (fun x16 H15 h => ?_)
            exact g_ret zp63 rfl rfl ⟨_, rfl, h⟩
        · replace h := h.2
          have hh : l2 = 0 ∨ l2 = 1 ∨ l2 = 2 := by omega
          rcases hh with c | c | c
          · replace h := h.1 c
            refine g_tabE (z := 0) zp63 rfl c (by decide) rfl ?_
            refine g_al zp63 rfl rfl rfl (by decide) ?_
            refine g_il zp63 rfl rfl rfl ?_
            refine g_callI (as := [zI l1]) (rest := [zR 32]) zp63 rfl rfl (Nat.succ_pos _) rfl rfl (Nat.le_of_ble_eq_true rfl) (Nat.le_of_ble_eq_true rfl) rfl rfl h (fun x18 H17 h => ?_)
            refine g_callI (as := [zR 32, zI x18]) (rest := []) zp63 rfl rfl (Nat.succ_pos _) rfl rfl (Nat.le_of_ble_eq_true rfl) (Nat.le_of_ble_eq_true rfl) rfl rfl h (fun x20 H19 h => ?_)
            exact g_ret zp63 rfl rfl ⟨_, rfl, h⟩
          · replace h := h.2.1 c
            refine g_tabE (z := 1) zp63 rfl c (by decide) rfl ?_
            refine g_al zp63 rfl rfl rfl (by decide) ?_
            refine g_il zp63 rfl rfl rfl ?_
            refine g_callI (as := [zI l1]) (rest := [zR 32]) zp63 rfl rfl (Nat.succ_pos _) rfl rfl (Nat.le_of_ble_eq_true rfl) (Nat.le_of_ble_eq_true rfl) rfl rfl h (fun x22 H21 h => ?_)
            refine g_callI (as := [zR 32, zI x22]) (rest := []) zp63 rfl rfl (Nat.succ_pos _) rfl rfl (Nat.le_of_ble_eq_true rfl) (Nat.le_of_ble_eq_true rfl) rfl rfl h (fun x24 H23 h => ?_)
            exact g_ret zp63 rfl rfl ⟨_, rfl, h⟩
          · replace h := h.2.2 c
            refine g_tabE (z := 2) zp63 rfl c (by decide) rfl ?_
            refine g_al zp63 rfl rfl rfl (by decide) ?_
            refine g_il zp63 rfl rfl rfl ?_
            refine g_callI (as := [zI l1]) (rest := [zR 32]) zp63 rfl rfl (Nat.succ_pos _) rfl rfl (Nat.le_of_ble_eq_true rfl) (Nat.le_of_ble_eq_true rfl) rfl rfl h (fun x26 H25 h => ?_)
            refine g_callI (as := [zR 32, zI x26]) (rest := []) zp63 rfl rfl (Nat.succ_pos _) rfl rfl (Nat.le_of_ble_eq_true rfl) (Nat.le_of_ble_eq_true rfl) rfl rfl h (fun x28 H27 h => ?_)
            exact g_ret zp63 rfl rfl ⟨_, rfl, h⟩
      · replace h := h.2 c9
        refine g_al zp63 rfl rfl rfl (by decide) ?_
        refine g_ic zp63 rfl rfl ?_
        refine g_callI (as := [zR 32, zI 5]) (rest := []) zp63 rfl rfl (Nat.succ_pos _) rfl rfl (Nat.le_of_ble_eq_true rfl) (Nat.le_of_ble_eq_true rfl) rfl rfl h (fun x30 H29 h => ?_)
        exact g_ret zp63 rfl rfl ⟨_, rfl, h⟩
    · replace h := h.2 c8
      refine g_al zp63 rfl rfl rfl (by decide) ?_
      refine g_ic zp63 rfl rfl ?_
      refine g_callI (as := [zR 32, zI 1]) (rest := []) zp63 rfl rfl (Nat.succ_pos _) rfl rfl (Nat.le_of_ble_eq_true rfl) (Nat.le_of_ble_eq_true rfl) rfl rfl h (fun x32 H31 h => ?_)
      exact g_ret zp63 rfl rfl ⟨_, rfl, h⟩
theorem zp64 : zprog.getD 64 [] = zk64 := rfl
theorem x64_0 {w : zWt} {d : Nat} {H : zHt} {K : Int → zHt → Prop} {l0 : Int}
    (h : (l0 < 1 → K 0 H) ∧ (1 ≤ l0 → ((Int.tmod l0 2) = 0 → zclI w d 65 [zI l0] H (fun x4 H3 => K (w32 ((zand l0 (w32 (-l0))) * x4)) H3)) ∧ (¬ (Int.tmod l0 2) = 0 → K 0 H))) :
    zclI w (d + 1) 64 [zI l0] H K := by
  show zgo w (d + 1) 64 0 [zI l0] [] H (zQI K)
  refine g_il zp64 rfl rfl rfl ?_
  refine g_ic zp64 rfl rfl ?_
  refine g_icmp zp64 rfl rfl zc2 (fun c1 => ?_) (fun c1 => ?_)
  · replace h := h.1 c1
    refine g_ic zp64 rfl rfl ?_
    exact g_ret zp64 rfl rfl ⟨_, rfl, h⟩
  · replace h := h.2 c1
    refine g_il zp64 rfl rfl rfl ?_
    refine g_ic zp64 rfl rfl ?_
    refine g_ar (r := Int.tmod l0 2) zp64 rfl rfl (zr_rem (by decide)) ?_
    refine g_if zp64 rfl rfl zc0 (fun c2 => ?_) (fun c2 => ?_)
    · replace h := h.1 c2
      refine g_il zp64 rfl rfl rfl ?_
      refine g_il zp64 rfl rfl rfl ?_
      refine g_neg zp64 rfl rfl ?_
      refine g_ar (r := zand l0 (w32 (-l0))) zp64 rfl rfl rfl ?_
      refine g_il zp64 rfl rfl rfl ?_
      refine g_callI (as := [zI l0]) (rest := [zI (zand l0 (w32 (-l0)))]) zp64 rfl rfl (Nat.succ_pos _) rfl rfl (Nat.le_of_ble_eq_true rfl) (Nat.le_of_ble_eq_true rfl) rfl rfl h (fun x4 H3 h => ?_)
      refine g_ar (r := w32 ((zand l0 (w32 (-l0))) * x4)) zp64 rfl rfl rfl ?_
      exact g_ret zp64 rfl rfl ⟨_, rfl, h⟩
    · replace h := h.2 c2
      refine g_ic zp64 rfl rfl ?_
      exact g_ret zp64 rfl rfl ⟨_, rfl, h⟩
theorem zp65 : zprog.getD 65 [] = zk65 := rfl
theorem x65_0 {w : zWt} {d : Nat} {H : zHt} {K : Int → zHt → Prop} {l0 : Int}
    (h : zclL w d 66 [zL (w32 ((w32 (2 * (zand l0 (w32 (-l0))))) - 1)), zL l0] H (fun x2 H1 => K (w32 x2) H1)) :
    zclI w (d + 1) 65 [zI l0] H K := by
  show zgo w (d + 1) 65 0 [zI l0, zJ] [] H (zQI K)
  refine g_il zp65 rfl rfl rfl ?_
  refine g_il zp65 rfl rfl rfl ?_
  refine g_neg zp65 rfl rfl ?_
  refine g_ar (r := zand l0 (w32 (-l0))) zp65 rfl rfl rfl ?_
  refine g_is (ls' := [zI l0, zI (zand l0 (w32 (-l0)))]) zp65 rfl rfl (Nat.le_of_ble_eq_true rfl) rfl ?_
  refine g_ic zp65 rfl rfl ?_
  refine g_il zp65 rfl rfl rfl ?_
  refine g_ar (r := w32 (2 * (zand l0 (w32 (-l0))))) zp65 rfl rfl rfl ?_
  refine g_ic zp65 rfl rfl ?_
  refine g_ar (r := w32 ((w32 (2 * (zand l0 (w32 (-l0))))) - 1)) zp65 rfl rfl rfl ?_
  refine g_i2l zp65 rfl rfl ?_
  refine g_il zp65 rfl rfl rfl ?_
  refine g_i2l zp65 rfl rfl ?_
  refine g_callL (as := [zL (w32 ((w32 (2 * (zand l0 (w32 (-l0))))) - 1)), zL l0]) (rest := []) zp65 rfl rfl (Nat.succ_pos _) rfl rfl (Nat.le_of_ble_eq_true rfl) (Nat.le_of_ble_eq_true rfl) rfl rfl h (fun x2 H1 h => ?_)
  refine g_l2i zp65 rfl rfl ?_
  exact g_ret zp65 rfl rfl ⟨_, rfl, h⟩
theorem zp66 : zprog.getD 66 [] = zk66 := rfl
theorem x66_0 {w : zWt} {d : Nat} {H : zHt} {K : Int → zHt → Prop} {l0 : Int} {l2 : Int}
    (h : zgo w d 66 9 [zJ, zJ, zJ, zJ, zL l0, zJ, zL l2, zJ, zI 0, zJ, zJ] [] H (zQL K)) :
    zclL w d 66 [zL l0, zL l2] H K := by
  show zgo w d 66 0 [zL l0, zJ, zL l2, zJ, zJ, zJ, zJ, zJ, zJ, zJ, zJ] [] H (zQL K)
  refine g_ll zp66 rfl rfl rfl ?_
  refine g_ls (ls' := [zL l0, zJ, zL l2, zJ, zL l0, zJ, zJ, zJ, zJ, zJ, zJ]) zp66 rfl rfl (Nat.le_of_ble_eq_true rfl) rfl ?_
  refine g_ll zp66 rfl rfl rfl ?_
  refine g_ls (ls' := [zL l0, zJ, zL l2, zJ, zL l0, zJ, zL l2, zJ, zJ, zJ, zJ]) zp66 rfl rfl (Nat.le_of_ble_eq_true rfl) rfl ?_
  refine g_ic zp66 rfl rfl ?_
  refine g_is (ls' := [zL l0, zJ, zL l2, zJ, zL l0, zJ, zL l2, zJ, zI 0, zJ, zJ]) zp66 rfl rfl (Nat.le_of_ble_eq_true rfl) rfl ?_
  exact g_weak (ls' := [zJ, zJ, zJ, zJ, zL l0, zJ, zL l2, zJ, zI 0, zJ, zJ]) ⟨Or.inl rfl, Or.inr rfl, Or.inl rfl, Or.inr rfl, Or.inr rfl, Or.inr rfl, Or.inr rfl, Or.inr rfl, Or.inr rfl, Or.inr rfl, Or.inr rfl, trivial⟩ h
theorem x66_9 {w : zWt} {d : Nat} {H : zHt} {K : Int → zHt → Prop} {l4 : Int} {l6 : Int} {l8 : Int}
    (h : (100 ≤ l8 → K (if l4 < 1 then 1 else l4) H) ∧ (l8 < 100 → (l6 = 0 → K (if l4 < 1 then 1 else l4) H) ∧ (¬ l6 = 0 → (l6 ≠ 0) ∧ zgo w d 66 9 [zJ, zJ, zJ, zJ, zL l6, zJ, zL (Int.tmod l4 l6), zJ, zI (w32 (l8 + 1)), zJ, zJ] [] H (zQL K)))) :
    zgo w d 66 9 [zJ, zJ, zJ, zJ, zL l4, zJ, zL l6, zJ, zI l8, zJ, zJ] [] H (zQL K) := by
  refine g_il zp66 rfl rfl rfl ?_
  refine g_ic zp66 rfl rfl ?_
  refine g_icmp zp66 rfl rfl zc3 (fun c1 => ?_) (fun c1 => ?_)
  · replace h := h.1 c1
    refine g_lc zp66 rfl rfl ?_
    refine g_ll zp66 rfl rfl rfl ?_
    refine g_mmaxL zp66 rfl rfl (Nat.le_of_ble_eq_true rfl) ?_
    exact g_ret zp66 rfl rfl ⟨_, rfl, h⟩
  · replace h := h.2 c1
    refine g_ll zp66 rfl rfl rfl ?_
    refine g_lc zp66 rfl rfl ?_
    refine g_lcmp zp66 rfl rfl rfl rfl zc0 (fun c2 => ?_) (fun c2 => ?_)
    · replace h := h.1 c2
      refine g_lc zp66 rfl rfl ?_
      refine g_ll zp66 rfl rfl rfl ?_
      refine g_mmaxL zp66 rfl rfl (Nat.le_of_ble_eq_true rfl) ?_
      exact g_ret zp66 rfl rfl ⟨_, rfl, h⟩
    · replace h := h.2 c2
      refine g_ll zp66 rfl rfl rfl ?_
      refine g_ll zp66 rfl rfl rfl ?_
      obtain ⟨c3, h⟩ := h
      refine g_lar (r := Int.tmod l4 l6) zp66 rfl rfl (zr_lrem c3) ?_
      refine g_ls (ls' := [zJ, zJ, zJ, zJ, zL l4, zJ, zL l6, zJ, zI l8, zL (Int.tmod l4 l6), zJ]) zp66 rfl rfl (Nat.le_of_ble_eq_true rfl) rfl ?_
      refine g_ll zp66 rfl rfl rfl ?_
      refine g_ls (ls' := [zJ, zJ, zJ, zJ, zL l6, zJ, zL l6, zJ, zI l8, zL (Int.tmod l4 l6), zJ]) zp66 rfl rfl (Nat.le_of_ble_eq_true rfl) rfl ?_
      refine g_ll zp66 rfl rfl rfl ?_
      refine g_ls (ls' := [zJ, zJ, zJ, zJ, zL l6, zJ, zL (Int.tmod l4 l6), zJ, zI l8, zL (Int.tmod l4 l6), zJ]) zp66 rfl rfl (Nat.le_of_ble_eq_true rfl) rfl ?_
      refine g_inc (ls' := [zJ, zJ, zJ, zJ, zL l6, zJ, zL (Int.tmod l4 l6), zJ, zI (w32 (l8 + 1)), zL (Int.tmod l4 l6), zJ]) zp66 rfl rfl rfl rfl ?_
      refine g_goto zp66 rfl ?_
      exact g_weak (ls' := [zJ, zJ, zJ, zJ, zL l6, zJ, zL (Int.tmod l4 l6), zJ, zI (w32 (l8 + 1)), zJ, zJ]) ⟨Or.inr rfl, Or.inr rfl, Or.inr rfl, Or.inr rfl, Or.inr rfl, Or.inr rfl, Or.inr rfl, Or.inr rfl, Or.inr rfl, Or.inl rfl, Or.inr rfl, trivial⟩ h
theorem zp67 : zprog.getD 67 [] = zk67 := rfl
theorem x67_0 {w : zWt} {d : Nat} {H : zHt} {K : Int → zHt → Prop} {l0 : Int}
    (h : zgo w d 67 4 [zJ, zI 0, zI l0] [] H (zQI K)) :
    zclI w d 67 [zI l0] H K := by
  show zgo w d 67 0 [zI l0, zJ, zJ] [] H (zQI K)
  refine g_ic zp67 rfl rfl ?_
  refine g_is (ls' := [zI l0, zI 0, zJ]) zp67 rfl rfl (Nat.le_of_ble_eq_true rfl) rfl ?_
  refine g_il zp67 rfl rfl rfl ?_
  refine g_is (ls' := [zI l0, zI 0, zI l0]) zp67 rfl rfl (Nat.le_of_ble_eq_true rfl) rfl ?_
  exact g_weak (ls' := [zJ, zI 0, zI l0]) ⟨Or.inl rfl, Or.inr rfl, Or.inr rfl, trivial⟩ h
theorem x67_4 {w : zWt} {d : Nat} {H : zHt} {K : Int → zHt → Prop} {l1 : Int} {l2 : Int}
    (h : (l2 ≤ 0 → K l1 H) ∧ (0 < l2 → (¬ (Int.tmod l2 2) = 0 → K l1 H) ∧ ((Int.tmod l2 2) = 0 → zgo w d 67 4 [zJ, zI (w32 (l1 + 1)), zI (w32 (Int.tdiv l2 2))] [] H (zQI K)))) :
    zgo w d 67 4 [zJ, zI l1, zI l2] [] H (zQI K) := by
  refine g_il zp67 rfl rfl rfl ?_
  refine g_if zp67 rfl rfl zc5 (fun c1 => ?_) (fun c1 => ?_)
  · replace h := h.1 c1
    refine g_il zp67 rfl rfl rfl ?_
    exact g_ret zp67 rfl rfl ⟨_, rfl, h⟩
  · replace h := h.2 c1
    refine g_il zp67 rfl rfl rfl ?_
    refine g_ic zp67 rfl rfl ?_
    refine g_ar (r := Int.tmod l2 2) zp67 rfl rfl (zr_rem (by decide)) ?_
    refine g_if zp67 rfl rfl zc1 (fun c2 => ?_) (fun c2 => ?_)
    · replace h := h.1 c2
      refine g_il zp67 rfl rfl rfl ?_
      exact g_ret zp67 rfl rfl ⟨_, rfl, h⟩
    · replace h := h.2 c2
      refine g_inc (ls' := [zJ, zI (w32 (l1 + 1)), zI l2]) zp67 rfl rfl rfl rfl ?_
      refine g_il zp67 rfl rfl rfl ?_
      refine g_ic zp67 rfl rfl ?_
      refine g_ar (r := w32 (Int.tdiv l2 2)) zp67 rfl rfl (zr_div (by decide)) ?_
      refine g_is (ls' := [zJ, zI (w32 (l1 + 1)), zI (w32 (Int.tdiv l2 2))]) zp67 rfl rfl (Nat.le_of_ble_eq_true rfl) rfl ?_
      refine g_goto zp67 rfl ?_
      exact g_weak (ls' := [zJ, zI (w32 (l1 + 1)), zI (w32 (Int.tdiv l2 2))]) ⟨Or.inr rfl, Or.inr rfl, Or.inr rfl, trivial⟩ h
theorem zp68 : zprog.getD 68 [] = zk68 := rfl
theorem x68_0 {w : zWt} {d : Nat} {H : zHt} {K : Int → zHt → Prop} {l1 : Int}
    (h : zclI w d 64 [zI l1] H (fun x2 H1 => (¬ x2 = 0 → zclI w d 65 [zI l1] H1 (fun x5 H4 => zclL w d 69 [zR 36, zI x5] H4 (fun x7 H6 => ((if 1 < w32 (Int.tdiv (zand l1 (w32 (-l1))) 2) then w32 (Int.tdiv (zand l1 (w32 (-l1))) 2) else 1) ≠ 0) ∧ (¬ (Int.tmod x7 (if 1 < w32 (Int.tdiv (zand l1 (w32 (-l1))) 2) then w32 (Int.tdiv (zand l1 (w32 (-l1))) 2) else 1)) = 0 → K 0 H6) ∧ ((Int.tmod x7 (if 1 < w32 (Int.tdiv (zand l1 (w32 (-l1))) 2) then w32 (Int.tdiv (zand l1 (w32 (-l1))) 2) else 1)) = 0 → K 1 H6)))) ∧ (x2 = 0 → K 0 H1))) :
    zclI w (d + 1) 68 [zR 32, zI l1] H K := by
  show zgo w (d + 1) 68 0 [zR 32, zI l1, zJ] [] H (zQI K)
  refine g_il zp68 rfl rfl rfl ?_
  refine g_callI (as := [zI l1]) (rest := []) zp68 rfl rfl (Nat.succ_pos _) rfl rfl (Nat.le_of_ble_eq_true rfl) (Nat.le_of_ble_eq_true rfl) rfl rfl h (fun x2 H1 h => ?_)
  refine g_if zp68 rfl rfl zc1 (fun c3 => ?_) (fun c3 => ?_)
  · replace h := h.1 c3
    refine g_ic zp68 rfl rfl ?_
    refine g_il zp68 rfl rfl rfl ?_
    refine g_il zp68 rfl rfl rfl ?_
    refine g_neg zp68 rfl rfl ?_
    refine g_ar (r := zand l1 (w32 (-l1))) zp68 rfl rfl rfl ?_
    refine g_ic zp68 rfl rfl ?_
    refine g_ar (r := w32 (Int.tdiv (zand l1 (w32 (-l1))) 2)) zp68 rfl rfl (zr_div (by decide)) ?_
    refine g_mmax zp68 rfl rfl (Nat.le_of_ble_eq_true rfl) ?_
    refine g_is (ls' := [zR 32, zI l1, zI (if 1 < w32 (Int.tdiv (zand l1 (w32 (-l1))) 2) then w32 (Int.tdiv (zand l1 (w32 (-l1))) 2) else 1)]) zp68 rfl rfl (Nat.le_of_ble_eq_true rfl) rfl ?_
    refine g_al zp68 rfl rfl rfl (by decide) ?_
    refine g_get (v := zR 36) zp68 rfl rfl rfl ⟨rfl, by decide, (by decide)⟩ rfl ?_
    refine g_il zp68 rfl rfl rfl ?_
    refine g_callI (as := [zI l1]) (rest := [zR 36]) zp68 rfl rfl (Nat.succ_pos _) rfl rfl (Nat.le_of_ble_eq_true rfl) (Nat.le_of_ble_eq_true rfl) rfl rfl h (fun x5 H4 h => ?_)
    refine g_callL (as := [zR 36, zI x5]) (rest := []) zp68 rfl rfl (Nat.succ_pos _) rfl rfl (Nat.le_of_ble_eq_true rfl) (Nat.le_of_ble_eq_true rfl) rfl rfl h (fun x7 H6 h => ?_)
    refine g_il zp68 rfl rfl rfl ?_
    refine g_i2l zp68 rfl rfl ?_
    obtain ⟨c8, h⟩ := h
    refine g_lar (r := Int.tmod x7 (if 1 < w32 (Int.tdiv (zand l1 (w32 (-l1))) 2) then w32 (Int.tdiv (zand l1 (w32 (-l1))) 2) else 1)) zp68 rfl rfl (zr_lrem c8) ?_
    refine g_lc zp68 rfl rfl ?_
    refine g_lcmp zp68 rfl rfl rfl rfl zc1 (fun c9 => ?_) (fun c9 => ?_)
    · replace h := h.1 c9
      refine g_ic zp68 rfl rfl ?_
      exact g_ret zp68 rfl (zret_b (by decide)) ⟨_, rfl, h⟩
    · replace h := h.2 c9
      refine g_ic zp68 rfl rfl ?_
      refine g_goto zp68 rfl ?_
      exact g_ret zp68 rfl (zret_b (by decide)) ⟨_, rfl, h⟩
  · replace h := h.2 c3
    refine g_ic zp68 rfl rfl ?_
    exact g_ret zp68 rfl (zret_b (by decide)) ⟨_, rfl, h⟩
theorem zp69 : zprog.getD 69 [] = zk69 := rfl
theorem x69_0 {w : zWt} {d : Nat} {H : zHt} {K : Int → zHt → Prop} {l1 : Int}
    (h : zclV w d 45 [zR 36, zI l1] H (fun H1 => zclL w d 58 [zR 36] H1 (fun x4 H3 => K x4 H3))) :
    zclL w (d + 1) 69 [zR 36, zI l1] H K := by
  show zgo w (d + 1) 69 0 [zR 36, zI l1] [] H (zQL K)
  refine g_al zp69 rfl rfl rfl (by decide) ?_
  refine g_il zp69 rfl rfl rfl ?_
  refine g_callV (as := [zR 36, zI l1]) (rest := []) zp69 rfl rfl (Nat.succ_pos _) rfl rfl (Nat.le_of_ble_eq_true rfl) (Nat.le_of_ble_eq_true rfl) rfl rfl h (fun H1 h => ?_)
  refine g_al zp69 rfl rfl rfl (by decide) ?_
  refine g_callL (as := [zR 36]) (rest := []) zp69 rfl rfl (Nat.succ_pos _) rfl rfl (Nat.le_of_ble_eq_true rfl) (Nat.le_of_ble_eq_true rfl) rfl rfl h (fun x4 H3 h => ?_)
  exact g_ret zp69 rfl rfl ⟨_, rfl, h⟩
theorem zp70 : zprog.getD 70 [] = zk70 := rfl
theorem x70_0 {w : zWt} {d : Nat} {H : zHt} {K : Int → zHt → Prop} {l1 : Int} {l2 : Int}
    (h : zclI w d 43 [zI l1] H (fun x2 H1 => (x2 = 0 → zclI w d 13 [zR 32, zI 1] H1 (fun x5 H4 => K x5 H4)) ∧ (¬ x2 = 0 → ((-1) ≤ l2 → zclI w d 71 [zR 36, zI l1] H1 (fun x8 H7 => (¬ l2 = (-1) → (l2 < x8 → (x8 ≤ (w32 (2 * l2)) → zclI w d 72 [zI l1, zI (w32 ((w32 (x8 - 1)) - l2))] H7 (fun x13 H12 => ((if 1 < x13 then x13 else 1) ≠ 0) ∧ zclI w d 39 [zR 32, zI (w32 (Int.tdiv l1 (if 1 < x13 then x13 else 1)))] H12 (fun x16 H15 => K x16 H15))) ∧ ((w32 (2 * l2)) < x8 → zclI w d 72 [zI l1, zI l2] H7 (fun x18 H17 => zclI w d 39 [zR 32, zI x18] H17 (fun x20 H19 => K x20 H19)))) ∧ (x8 ≤ l2 → zclI w d 13 [zR 32, zI 5] H7 (fun x22 H21 => K x22 H21))) ∧ (l2 = (-1) → zclI w d 39 [zR 32, zI x8] H7 (fun x24 H23 => K x24 H23)))) ∧ (l2 < (-1) → zclI w d 13 [zR 32, zI 1] H1 (fun x26 H25 => K x26 H25))))) :
    zclI w (d + 1) 70 [zR 32, zI l1, zI l2] H K := by
  show zgo w (d + 1) 70 0 [zR 32, zI l1, zI l2, zJ] [] H (zQI K)
  refine g_il zp70 rfl rfl rfl ?_
  refine g_callI (as := [zI l1]) (rest := []) zp70 rfl rfl (Nat.succ_pos _) rfl rfl (Nat.le_of_ble_eq_true rfl) (Nat.le_of_ble_eq_true rfl) rfl rfl h (fun x2 H1 h => ?_)
  refine g_if zp70 rfl rfl zc0 (fun c3 => ?_) (fun c3 => ?_)
  · replace h := h.1 c3
    refine g_al zp70 rfl rfl rfl (by decide) ?_
    refine g_ic zp70 rfl rfl ?_
    refine g_callI (as := [zR 32, zI 1]) (rest := []) zp70 rfl rfl (Nat.succ_pos _) rfl rfl (Nat.le_of_ble_eq_true rfl) (Nat.le_of_ble_eq_true rfl) rfl rfl h (fun x5 H4 h => ?_)
    exact g_ret zp70 rfl rfl ⟨_, rfl, h⟩
  · replace h := h.2 c3
    refine g_il zp70 rfl rfl rfl ?_
    refine g_ic zp70 rfl rfl ?_
    refine g_icmp zp70 rfl rfl zc3 (fun c6 => ?_) (fun c6 => ?_)
    · replace h := h.1 c6
      refine g_al zp70 rfl rfl rfl (by decide) ?_
      refine g_get (v := zR 36) zp70 rfl rfl rfl ⟨rfl, by decide, (by decide)⟩ rfl ?_
      refine g_il zp70 rfl rfl rfl ?_
      refine g_callI (as := [zR 36, zI l1]) (rest := []) zp70 rfl rfl (Nat.succ_pos _) rfl rfl (Nat.le_of_ble_eq_true rfl) (Nat.le_of_ble_eq_true rfl) rfl rfl h (fun x8 H7 h => ?_)
      refine g_is (ls' := [zR 32, zI l1, zI l2, zI x8]) zp70 rfl rfl (Nat.le_of_ble_eq_true rfl) rfl ?_
      refine g_il zp70 rfl rfl rfl ?_
      refine g_ic zp70 rfl rfl ?_
      refine g_icmp zp70 rfl rfl zc1 (fun c9 => ?_) (fun c9 => ?_)
      · replace h := h.1 c9
        refine g_il zp70 rfl rfl rfl ?_
        refine g_il zp70 rfl rfl rfl ?_
        refine g_icmp zp70 rfl rfl zc2 (fun c10 => ?_) (fun c10 => ?_)
        · replace h := h.1 c10
          refine g_ic zp70 rfl rfl ?_
          refine g_il zp70 rfl rfl rfl ?_
          refine g_ar (r := w32 (2 * l2)) zp70 rfl rfl rfl ?_
          refine g_il zp70 rfl rfl rfl ?_
          refine g_icmp zp70 rfl rfl zc3 (fun c11 => ?_) (fun c11 => ?_)
          · replace h := h.1 c11
            refine g_al zp70 rfl rfl rfl (by decide) ?_
            refine g_il zp70 rfl rfl rfl ?_
            refine g_ic zp70 rfl rfl ?_
            refine g_il zp70 rfl rfl rfl ?_
            refine g_il zp70 rfl rfl rfl ?_
            refine g_ic zp70 rfl rfl ?_
            refine g_ar (r := w32 (x8 - 1)) zp70 rfl rfl rfl ?_
            refine g_il zp70 rfl rfl rfl ?_
            refine g_ar (r := w32 ((w32 (x8 - 1)) - l2)) zp70 rfl rfl rfl ?_
            refine g_callI (as := [zI l1, zI (w32 ((w32 (x8 - 1)) - l2))]) (rest := [zI 1, zI l1, zR 32]) zp70 rfl rfl (Nat.succ_pos _) rfl rfl (Nat.le_of_ble_eq_true rfl) (Nat.le_of_ble_eq_true rfl) rfl rfl h (fun x13 H12 h => ?_)
            refine g_mmax zp70 rfl rfl (Nat.le_of_ble_eq_true rfl) ?_
            obtain ⟨c14, h⟩ := h
            refine g_ar (r := w32 (Int.tdiv l1 (if 1 < x13 then x13 else 1))) zp70 rfl rfl (zr_div c14) ?_
            refine g_callI (as := [zR 32, zI (w32 (Int.tdiv l1 (if 1 < x13 then x13 else 1)))]) (rest := []) zp70 rfl rfl (Nat.succ_pos _) rfl rfl (Nat.le_of_ble_eq_true rfl) (Nat.le_of_ble_eq_true rfl) rfl rfl h (fun x16 H15 h => ?_)
            exact g_ret zp70 rfl rfl ⟨_, rfl, h⟩
          · replace h := h.2 c11
            refine g_al zp70 rfl rfl rfl (by decide) ?_
            refine g_il zp70 rfl rfl rfl ?_
            refine g_il zp70 rfl rfl rfl ?_
            refine g_callI (as := [zI l1, zI l2]) (rest := [zR 32]) zp70 rfl rfl (Nat.succ_pos _) rfl rfl (Nat.le_of_ble_eq_true rfl) (Nat.le_of_ble_eq_true rfl) rfl rfl h (fun x18 H17 h => ?_)
            refine g_callI (as := [zR 32, zI x18]) (rest := []) zp70 rfl rfl (Nat.succ_pos _) rfl rfl (Nat.le_of_ble_eq_true rfl) (Nat.le_of_ble_eq_true rfl) rfl rfl h (fun x20 H19 h => ?_)
            exact g_ret zp70 rfl rfl ⟨_, rfl, h⟩
        · replace h := h.2 c10
          refine g_al zp70 rfl rfl rfl (by decide) ?_
          refine g_ic zp70 rfl rfl ?_
          refine g_callI (as := [zR 32, zI 5]) (rest := []) zp70 rfl rfl (Nat.succ_pos _) rfl rfl (Nat.le_of_ble_eq_true rfl) (Nat.le_of_ble_eq_true rfl) rfl rfl h (fun x22 H21 h => ?_)
          exact g_ret zp70 rfl rfl ⟨_, rfl, h⟩
      · replace h := h.2 c9
        refine g_al zp70 rfl rfl rfl (by decide) ?_
        refine g_il zp70 rfl rfl rfl ?_
        refine g_callI (as := [zR 32, zI x8]) (rest := []) zp70 rfl rfl (Nat.succ_pos _) rfl rfl (Nat.le_of_ble_eq_true rfl) (Nat.le_of_ble_eq_true rfl) rfl rfl h (fun x24 H23 h => ?_)
        exact g_ret zp70 rfl rfl ⟨_, rfl, h⟩
    · replace h := h.2 c6
      refine g_al zp70 rfl rfl rfl (by decide) ?_
      refine g_ic zp70 rfl rfl ?_
      refine g_callI (as := [zR 32, zI 1]) (rest := []) zp70 rfl rfl (Nat.succ_pos _) rfl rfl (Nat.le_of_ble_eq_true rfl) (Nat.le_of_ble_eq_true rfl) rfl rfl h (fun x26 H25 h => ?_)
      exact g_ret zp70 rfl rfl ⟨_, rfl, h⟩
theorem zp71 : zprog.getD 71 [] = zk71 := rfl
theorem x71_0 {w : zWt} {d : Nat} {H : zHt} {K : Int → zHt → Prop} {l1 : Int}
    (h : zclV w d 45 [zR 36, zI l1] H (fun H1 => zgo w (d + 1) 71 9 [zR 36, zJ, zI 1, zI 0] [] H1 (zQI K))) :
    zclI w (d + 1) 71 [zR 36, zI l1] H K := by
  show zgo w (d + 1) 71 0 [zR 36, zI l1, zJ, zJ] [] H (zQI K)
  refine g_al zp71 rfl rfl rfl (by decide) ?_
  refine g_il zp71 rfl rfl rfl ?_
  refine g_callV (as := [zR 36, zI l1]) (rest := []) zp71 rfl rfl (Nat.succ_pos _) rfl rfl (Nat.le_of_ble_eq_true rfl) (Nat.le_of_ble_eq_true rfl) rfl rfl h (fun H1 h => ?_)
  refine g_ic zp71 rfl rfl ?_
  refine g_is (ls' := [zR 36, zI l1, zI 1, zJ]) zp71 rfl rfl (Nat.le_of_ble_eq_true rfl) rfl ?_
  refine g_ic zp71 rfl rfl ?_
  refine g_is (ls' := [zR 36, zI l1, zI 1, zI 0]) zp71 rfl rfl (Nat.le_of_ble_eq_true rfl) rfl ?_
  exact g_weak (ls' := [zR 36, zJ, zI 1, zI 0]) ⟨Or.inr rfl, Or.inl rfl, Or.inr rfl, Or.inr rfl, trivial⟩ h
theorem x71_9 {w : zWt} {d : Nat} {H : zHt} {K : Int → zHt → Prop} {l2 : Int} {l3 : Int}
    (h : ((H 36 3) ≤ l3 → K l2 H) ∧ (l3 < (H 36 3) → (0 ≤ l3 ∧ l3 < 9) ∧ zgo w (d + 1) 71 9 [zR 36, zJ, zI (w32 (l2 * (w32 ((H 38 l3) + 1)))), zI (w32 (l3 + 1))] [] H (zQI K))) :
    zgo w (d + 1) 71 9 [zR 36, zJ, zI l2, zI l3] [] H (zQI K) := by
  refine g_il zp71 rfl rfl rfl ?_
  refine g_al zp71 rfl rfl rfl (by decide) ?_
  refine g_get (v := zI (H 36 3)) zp71 rfl rfl rfl ⟨rfl, by decide, (by decide)⟩ rfl ?_
  refine g_icmp zp71 rfl rfl zc3 (fun c1 => ?_) (fun c1 => ?_)
  · replace h := h.1 c1
    refine g_il zp71 rfl rfl rfl ?_
    exact g_ret zp71 rfl rfl ⟨_, rfl, h⟩
  · replace h := h.2 c1
    refine g_il zp71 rfl rfl rfl ?_
    refine g_al zp71 rfl rfl rfl (by decide) ?_
    refine g_get (v := zR 38) zp71 rfl rfl rfl ⟨rfl, by decide, (by decide)⟩ rfl ?_
    refine g_il zp71 rfl rfl rfl ?_
    obtain ⟨c2, h⟩ := h
    refine g_ald (v := zI (H 38 l3)) zp71 rfl rfl rfl rfl c2 rfl ?_
    refine g_ic zp71 rfl rfl ?_
    refine g_ar (r := w32 ((H 38 l3) + 1)) zp71 rfl rfl rfl ?_
    refine g_ar (r := w32 (l2 * (w32 ((H 38 l3) + 1)))) zp71 rfl rfl rfl ?_
    refine g_is (ls' := [zR 36, zJ, zI (w32 (l2 * (w32 ((H 38 l3) + 1)))), zI l3]) zp71 rfl rfl (Nat.le_of_ble_eq_true rfl) rfl ?_
    refine g_inc (ls' := [zR 36, zJ, zI (w32 (l2 * (w32 ((H 38 l3) + 1)))), zI (w32 (l3 + 1))]) zp71 rfl rfl rfl rfl ?_
    refine g_goto zp71 rfl ?_
    exact g_weak (ls' := [zR 36, zJ, zI (w32 (l2 * (w32 ((H 38 l3) + 1)))), zI (w32 (l3 + 1))]) ⟨Or.inr rfl, Or.inr rfl, Or.inr rfl, Or.inr rfl, trivial⟩ h
theorem zp72 : zprog.getD 72 [] = zk72 := rfl
theorem x72_0 {w : zWt} {d : Nat} {H : zHt} {K : Int → zHt → Prop} {l0 : Int} {l1 : Int}
    (h : zgo w d 72 4 [zI l0, zI l1, zI 0, zI 1] [] H (zQI K)) :
    zclI w d 72 [zI l0, zI l1] H K := by
  show zgo w d 72 0 [zI l0, zI l1, zJ, zJ] [] H (zQI K)
  refine g_ic zp72 rfl rfl ?_
  refine g_is (ls' := [zI l0, zI l1, zI 0, zJ]) zp72 rfl rfl (Nat.le_of_ble_eq_true rfl) rfl ?_
  refine g_ic zp72 rfl rfl ?_
  refine g_is (ls' := [zI l0, zI l1, zI 0, zI 1]) zp72 rfl rfl (Nat.le_of_ble_eq_true rfl) rfl ?_
  exact g_weak (ls' := [zI l0, zI l1, zI 0, zI 1]) ⟨Or.inr rfl, Or.inr rfl, Or.inr rfl, Or.inr rfl, trivial⟩ h
theorem x72_4 {w : zWt} {d : Nat} {H : zHt} {K : Int → zHt → Prop} {l0 : Int} {l1 : Int} {l2 : Int} {l3 : Int}
    (h : (l3 ≠ 0) ∧ ((w32 (Int.tdiv l0 l3)) < l3 → K 1 H) ∧ (l3 ≤ (w32 (Int.tdiv l0 l3)) → ((Int.tmod l0 l3) = 0 → (¬ l2 = l1 → zgo w d 72 4 [zI l0, zI l1, zI (w32 (l2 + 1)), zI (w32 (l3 + 1))] [] H (zQI K)) ∧ (l2 = l1 → K l3 H)) ∧ (¬ (Int.tmod l0 l3) = 0 → zgo w d 72 4 [zI l0, zI l1, zI l2, zI (w32 (l3 + 1))] [] H (zQI K)))) :
    zgo w d 72 4 [zI l0, zI l1, zI l2, zI l3] [] H (zQI K) := by
  refine g_il zp72 rfl rfl rfl ?_
  refine g_il zp72 rfl rfl rfl ?_
  refine g_il zp72 rfl rfl rfl ?_
  obtain ⟨c1, h⟩ := h
  refine g_ar (r := w32 (Int.tdiv l0 l3)) zp72 rfl rfl (zr_div c1) ?_
  refine g_icmp zp72 rfl rfl zc4 (fun c2 => ?_) (fun c2 => ?_)
  · replace h := h.1 c2
    refine g_ic zp72 rfl rfl ?_
    exact g_ret zp72 rfl rfl ⟨_, rfl, h⟩
  · replace h := h.2 c2
    refine g_il zp72 rfl rfl rfl ?_
    refine g_il zp72 rfl rfl rfl ?_
    refine g_ar (r := Int.tmod l0 l3) zp72 rfl rfl (zr_rem c1) ?_
    refine g_if zp72 rfl rfl zc0 (fun c3 => ?_) (fun c3 => ?_)
    · replace h := h.1 c3
      refine g_il zp72 rfl rfl rfl ?_
      refine g_il zp72 rfl rfl rfl ?_
      refine g_icmp zp72 rfl rfl zc1 (fun c4 => ?_) (fun c4 => ?_)
      · replace h := h.1 c4
        refine g_inc (ls' := [zI l0, zI l1, zI (w32 (l2 + 1)), zI l3]) zp72 rfl rfl rfl rfl ?_
        refine g_inc (ls' := [zI l0, zI l1, zI (w32 (l2 + 1)), zI (w32 (l3 + 1))]) zp72 rfl rfl rfl rfl ?_
        refine g_goto zp72 rfl ?_
        exact g_weak (ls' := [zI l0, zI l1, zI (w32 (l2 + 1)), zI (w32 (l3 + 1))]) ⟨Or.inr rfl, Or.inr rfl, Or.inr rfl, Or.inr rfl, trivial⟩ h
      · replace h := h.2 c4
        refine g_il zp72 rfl rfl rfl ?_
        exact g_ret zp72 rfl rfl ⟨_, rfl, h⟩
    · replace h := h.2 c3
      refine g_goto zp72 rfl ?_
      refine g_inc (ls' := [zI l0, zI l1, zI l2, zI (w32 (l3 + 1))]) zp72 rfl rfl rfl rfl ?_
      refine g_goto zp72 rfl ?_
      exact g_weak (ls' := [zI l0, zI l1, zI l2, zI (w32 (l3 + 1))]) ⟨Or.inr rfl, Or.inr rfl, Or.inr rfl, Or.inr rfl, trivial⟩ h
theorem zp76 : zprog.getD 76 [] = zk76 := rfl
theorem x76_0 {w : zWt} {d : Nat} {H : zHt} {K : Int → zHt → Prop} {l1 : Int} {l2 : Int}
    (h : zclI w d 43 [zI l1] H (fun x2 H1 => (x2 = 0 → zclI w d 13 [zR 32, zI 1] H1 (fun x5 H4 => K x5 H4)) ∧ (¬ x2 = 0 → zclI w d 44 [zI l2, zI 1] H1 (fun x7 H6 => (¬ x7 = 0 → zclL w d 69 [zR 36, zI l1] H6 (fun x10 H9 => zclL w d 77 [zL x10, zL l1, zI l2] H9 (fun x12 H11 => zclL w d 60 [zR 32, zL x12] H11 (fun x14 H13 => K x14 H13)))) ∧ (x7 = 0 → zclI w d 13 [zR 32, zI 1] H6 (fun x16 H15 => K x16 H15)))))) :
    zclL w (d + 1) 76 [zR 32, zI l1, zI l2] H K := by
  show zgo w (d + 1) 76 0 [zR 32, zI l1, zI l2] [] H (zQL K)
  refine g_il zp76 rfl rfl rfl ?_
  refine g_callI (as := [zI l1]) (rest := []) zp76 rfl rfl (Nat.succ_pos _) rfl rfl (Nat.le_of_ble_eq_true rfl) (Nat.le_of_ble_eq_true rfl) rfl rfl h (fun x2 H1 h => ?_)
  refine g_if zp76 rfl rfl zc0 (fun c3 => ?_) (fun c3 => ?_)
  · replace h := h.1 c3
    refine g_al zp76 rfl rfl rfl (by decide) ?_
    refine g_ic zp76 rfl rfl ?_
    refine g_callI (as := [zR 32, zI 1]) (rest := []) zp76 rfl rfl (Nat.succ_pos _) rfl rfl (Nat.le_of_ble_eq_true rfl) (Nat.le_of_ble_eq_true rfl) rfl rfl h (fun x5 H4 h => ?_)
    refine g_i2l zp76 rfl rfl ?_
    exact g_ret zp76 rfl rfl ⟨_, rfl, h⟩
  · replace h := h.2 c3
    refine g_il zp76 rfl rfl rfl ?_
    refine g_ic zp76 rfl rfl ?_
    refine g_callI (as := [zI l2, zI 1]) (rest := []) zp76 rfl rfl (Nat.succ_pos _) rfl rfl (Nat.le_of_ble_eq_true rfl) (Nat.le_of_ble_eq_true rfl) rfl rfl h (fun x7 H6 h => ?_)
    refine g_if zp76 rfl rfl zc1 (fun c8 => ?_) (fun c8 => ?_)
    · replace h := h.1 c8
      refine g_al zp76 rfl rfl rfl (by decide) ?_
      refine g_al zp76 rfl rfl rfl (by decide) ?_
      refine g_get (v := zR 36) zp76 rfl rfl rfl ⟨rfl, by decide, (by decide)⟩ rfl ?_
      refine g_il zp76 rfl rfl rfl ?_
      refine g_callL (as := [zR 36, zI l1]) (rest := [zR 32]) zp76 rfl rfl (Nat.succ_pos _) rfl rfl (Nat.le_of_ble_eq_true rfl) (Nat.le_of_ble_eq_true rfl) rfl rfl h (fun x10 H9 h => ?_)
      refine g_il zp76 rfl rfl rfl ?_
      refine g_i2l zp76 rfl rfl ?_
      refine g_il zp76 rfl rfl rfl ?_
      refine g_callL (as := [zL x10, zL l1, zI l2]) (rest := [zR 32]) zp76 rfl rfl (Nat.succ_pos _) rfl rfl (Nat.le_of_ble_eq_true rfl) (Nat.le_of_ble_eq_true rfl) rfl rfl h (fun x12 H11 h => ?_)
      refine g_callL (as := [zR 32, zL x12]) (rest := []) zp76 rfl rfl (Nat.succ_pos _) rfl rfl (Nat.le_of_ble_eq_true rfl) (Nat.le_of_ble_eq_true rfl) rfl rfl h (fun x14 H13 h => ?_)
      exact g_ret zp76 rfl rfl ⟨_, rfl, h⟩
    · replace h := h.2 c8
      refine g_al zp76 rfl rfl rfl (by decide) ?_
      refine g_ic zp76 rfl rfl ?_
      refine g_callI (as := [zR 32, zI 1]) (rest := []) zp76 rfl rfl (Nat.succ_pos _) rfl rfl (Nat.le_of_ble_eq_true rfl) (Nat.le_of_ble_eq_true rfl) rfl rfl h (fun x16 H15 h => ?_)
      refine g_i2l zp76 rfl rfl ?_
      exact g_ret zp76 rfl rfl ⟨_, rfl, h⟩
theorem zp77 : zprog.getD 77 [] = zk77 := rfl
theorem x77_0 {w : zWt} {d : Nat} {H : zHt} {K : Int → zHt → Prop} {l0 : Int} {l2 : Int} {l4 : Int}
    (h : (¬ l4 = 0 → zclL w d 66 [zL l0, zL l2] H (fun x3 H2 => (x3 ≠ 0) ∧ K (w64 (Int.tdiv l2 x3)) H2)) ∧ (l4 = 0 → zclL w d 66 [zL l0, zL l2] H (fun x6 H5 => (x6 ≠ 0) ∧ K (w64 (Int.tdiv l0 x6)) H5))) :
    zclL w (d + 1) 77 [zL l0, zL l2, zI l4] H K := by
  show zgo w (d + 1) 77 0 [zL l0, zJ, zL l2, zJ, zI l4] [] H (zQL K)
  refine g_il zp77 rfl rfl rfl ?_
  refine g_if zp77 rfl rfl zc1 (fun c1 => ?_) (fun c1 => ?_)
  · replace h := h.1 c1
    refine g_ll zp77 rfl rfl rfl ?_
    refine g_ll zp77 rfl rfl rfl ?_
    refine g_ll zp77 rfl rfl rfl ?_
    refine g_callL (as := [zL l0, zL l2]) (rest := [zL l2]) zp77 rfl rfl (Nat.succ_pos _) rfl rfl (Nat.le_of_ble_eq_true rfl) (Nat.le_of_ble_eq_true rfl) rfl rfl h (fun x3 H2 h => ?_)
    obtain ⟨c4, h⟩ := h
    refine g_lar (r := w64 (Int.tdiv l2 x3)) zp77 rfl rfl (zr_ldiv c4) ?_
    exact g_ret zp77 rfl rfl ⟨_, rfl, h⟩
  · replace h := h.2 c1
    refine g_ll zp77 rfl rfl rfl ?_
    refine g_goto zp77 rfl ?_
    refine g_ll zp77 rfl rfl rfl ?_
    refine g_ll zp77 rfl rfl rfl ?_
    refine g_callL (as := [zL l0, zL l2]) (rest := [zL l0]) zp77 rfl rfl (Nat.succ_pos _) rfl rfl (Nat.le_of_ble_eq_true rfl) (Nat.le_of_ble_eq_true rfl) rfl rfl h (fun x6 H5 h => ?_)
    obtain ⟨c7, h⟩ := h
    refine g_lar (r := w64 (Int.tdiv l0 x6)) zp77 rfl rfl (zr_ldiv c7) ?_
    exact g_ret zp77 rfl rfl ⟨_, rfl, h⟩
theorem zp94 : zprog.getD 94 [] = zk94 := rfl
theorem x94_0 {w : zWt} {d : Nat} {H : zHt} {K : Int → zHt → Prop} {l1 : Int} {l2 : Int} {l3 : Int}
    (h : zclI w d 43 [zI l1] H (fun x2 H1 => (x2 = 0 → zclI w d 13 [zR 32, zI 1] H1 (fun x5 H4 => K x5 H4)) ∧ (¬ x2 = 0 → zclI w d 44 [zI l3, zI 1] H1 (fun x7 H6 => (¬ x7 = 0 → zclL w d 69 [zR 36, zI l1] H6 (fun x10 H9 => zclI w d 71 [zR 36, zI l1] H9 (fun x12 H11 => (l2 = 0 → zclL w d 77 [zL x10, zL x12, zI l3] H11 (fun x15 H14 => zclL w d 60 [zR 32, zL x15] H14 (fun x17 H16 => K x17 H16))) ∧ (¬ l2 = 0 → zclL w d 77 [zL (w64 (l1 * x12)), zL x10, zI l3] H11 (fun x19 H18 => zclL w d 60 [zR 32, zL x19] H18 (fun x21 H20 => K x21 H20)))))) ∧ (x7 = 0 → zclI w d 13 [zR 32, zI 1] H6 (fun x23 H22 => K x23 H22)))))) :
    zclL w (d + 1) 94 [zR 32, zI l1, zI l2, zI l3] H K := by
  show zgo w (d + 1) 94 0 [zR 32, zI l1, zI l2, zI l3, zJ, zJ, zJ] [] H (zQL K)
  refine g_il zp94 rfl rfl rfl ?_
  refine g_callI (as := [zI l1]) (rest := []) zp94 rfl rfl (Nat.succ_pos _) rfl rfl (Nat.le_of_ble_eq_true rfl) (Nat.le_of_ble_eq_true rfl) rfl rfl h (fun x2 H1 h => ?_)
  refine g_if zp94 rfl rfl zc0 (fun c3 => ?_) (fun c3 => ?_)
  · replace h := h.1 c3
    refine g_al zp94 rfl rfl rfl (by decide) ?_
    refine g_ic zp94 rfl rfl ?_
    refine g_callI (as := [zR 32, zI 1]) (rest := []) zp94 rfl rfl (Nat.succ_pos _) rfl rfl (Nat.le_of_ble_eq_true rfl) (Nat.le_of_ble_eq_true rfl) rfl rfl h (fun x5 H4 h => ?_)
    refine g_i2l zp94 rfl rfl ?_
    exact g_ret zp94 rfl rfl ⟨_, rfl, h⟩
  · replace h := h.2 c3
    refine g_il zp94 rfl rfl rfl ?_
    refine g_ic zp94 rfl rfl ?_
    refine g_callI (as := [zI l3, zI 1]) (rest := []) zp94 rfl rfl (Nat.succ_pos _) rfl rfl (Nat.le_of_ble_eq_true rfl) (Nat.le_of_ble_eq_true rfl) rfl rfl h (fun x7 H6 h => ?_)
    refine g_if zp94 rfl rfl zc1 (fun c8 => ?_) (fun c8 => ?_)
    · replace h := h.1 c8
      refine g_al zp94 rfl rfl rfl (by decide) ?_
      refine g_get (v := zR 36) zp94 rfl rfl rfl ⟨rfl, by decide, (by decide)⟩ rfl ?_
      refine g_il zp94 rfl rfl rfl ?_
      refine g_callL (as := [zR 36, zI l1]) (rest := []) zp94 rfl rfl (Nat.succ_pos _) rfl rfl (Nat.le_of_ble_eq_true rfl) (Nat.le_of_ble_eq_true rfl) rfl rfl h (fun x10 H9 h => ?_)
      refine g_ls (ls' := [zR 32, zI l1, zI l2, zI l3, zL x10, zJ, zJ]) zp94 rfl rfl (Nat.le_of_ble_eq_true rfl) rfl ?_
      refine g_al zp94 rfl rfl rfl (by decide) ?_
      refine g_get (v := zR 36) zp94 rfl rfl rfl ⟨rfl, by decide, (by decide)⟩ rfl ?_
      refine g_il zp94 rfl rfl rfl ?_
      refine g_callI (as := [zR 36, zI l1]) (rest := []) zp94 rfl rfl (Nat.succ_pos _) rfl rfl (Nat.le_of_ble_eq_true rfl) (Nat.le_of_ble_eq_true rfl) rfl rfl h (fun x12 H11 h => ?_)
      refine g_is (ls' := [zR 32, zI l1, zI l2, zI l3, zL x10, zJ, zI x12]) zp94 rfl rfl (Nat.le_of_ble_eq_true rfl) rfl ?_
      refine g_il zp94 rfl rfl rfl ?_
      refine g_if zp94 rfl rfl zc0 (fun c13 => ?_) (fun c13 => ?_)
      · replace h := h.1 c13
        refine g_al zp94 rfl rfl rfl (by decide) ?_
        refine g_ll zp94 rfl rfl rfl ?_
        refine g_il zp94 rfl rfl rfl ?_
        refine g_i2l zp94 rfl rfl ?_
        refine g_il zp94 rfl rfl rfl ?_
        refine g_callL (as := [zL x10, zL x12, zI l3]) (rest := [zR 32]) zp94 rfl rfl (Nat.succ_pos _) rfl rfl (Nat.le_of_ble_eq_true rfl) (Nat.le_of_ble_eq_true rfl) rfl rfl h (fun x15 H14 h => ?_)
        refine g_callL (as := [zR 32, zL x15]) (rest := []) zp94 rfl rfl (Nat.succ_pos _) rfl rfl (Nat.le_of_ble_eq_true rfl) (Nat.le_of_ble_eq_true rfl) rfl rfl h (fun x17 H16 h => ?_)
        exact g_ret zp94 rfl rfl ⟨_, rfl, h⟩
      · replace h := h.2 c13
        refine g_al zp94 rfl rfl rfl (by decide) ?_
        refine g_il zp94 rfl rfl rfl ?_
        refine g_i2l zp94 rfl rfl ?_
        refine g_il zp94 rfl rfl rfl ?_
        refine g_i2l zp94 rfl rfl ?_
        refine g_lar (r := w64 (l1 * x12)) zp94 rfl rfl rfl ?_
        refine g_ll zp94 rfl rfl rfl ?_
        refine g_il zp94 rfl rfl rfl ?_
        refine g_callL (as := [zL (w64 (l1 * x12)), zL x10, zI l3]) (rest := [zR 32]) zp94 rfl rfl (Nat.succ_pos _) rfl rfl (Nat.le_of_ble_eq_true rfl) (Nat.le_of_ble_eq_true rfl) rfl rfl h (fun x19 H18 h => ?_)
        refine g_callL (as := [zR 32, zL x19]) (rest := []) zp94 rfl rfl (Nat.succ_pos _) rfl rfl (Nat.le_of_ble_eq_true rfl) (Nat.le_of_ble_eq_true rfl) rfl rfl h (fun x21 H20 h => ?_)
        exact g_ret zp94 rfl rfl ⟨_, rfl, h⟩
    · replace h := h.2 c8
      refine g_al zp94 rfl rfl rfl (by decide) ?_
      refine g_ic zp94 rfl rfl ?_
      refine g_callI (as := [zR 32, zI 1]) (rest := []) zp94 rfl rfl (Nat.succ_pos _) rfl rfl (Nat.le_of_ble_eq_true rfl) (Nat.le_of_ble_eq_true rfl) rfl rfl h (fun x23 H22 h => ?_)
      refine g_i2l zp94 rfl rfl ?_
      exact g_ret zp94 rfl rfl ⟨_, rfl, h⟩
theorem zp105 : zprog.getD 105 [] = zk105 := rfl
theorem x105_0 {w : zWt} {d : Nat} {H : zHt} {K : Int → zHt → Prop} {l1 : Int}
    (h : zclI w d 106 [zR 32, zI l1] H (fun x2 H1 => (¬ x2 = 0 → (0 ≤ l1 ∧ l1 < 6) ∧ zclI w d 39 [zR 32, zI (H1 41 l1)] H1 (fun x6 H5 => K x6 H5)) ∧ (x2 = 0 → zclI w d 13 [zR 32, zI 2] H1 (fun x8 H7 => K x8 H7)))) :
    zclI w (d + 1) 105 [zR 32, zI l1] H K := by
  show zgo w (d + 1) 105 0 [zR 32, zI l1] [] H (zQI K)
  refine g_al zp105 rfl rfl rfl (by decide) ?_
  refine g_il zp105 rfl rfl rfl ?_
  refine g_callI (as := [zR 32, zI l1]) (rest := []) zp105 rfl rfl (Nat.succ_pos _) rfl rfl (Nat.le_of_ble_eq_true rfl) (Nat.le_of_ble_eq_true rfl) rfl rfl h (fun x2 H1 h => ?_)
  refine g_if zp105 rfl rfl zc1 (fun c3 => ?_) (fun c3 => ?_)
  · replace h := h.1 c3
    refine g_al zp105 rfl rfl rfl (by decide) ?_
    refine g_al zp105 rfl rfl rfl (by decide) ?_
    refine g_get (v := zR 40) zp105 rfl rfl rfl ⟨rfl, by decide, (by decide)⟩ rfl ?_
    refine g_get (v := zR 41) zp105 rfl rfl rfl ⟨rfl, by decide, (by decide)⟩ rfl ?_
    refine g_il zp105 rfl rfl rfl ?_
    obtain ⟨c4, h⟩ := h
    refine g_ald (v := zI (H1 41 l1)) zp105 rfl rfl rfl rfl c4 rfl ?_
    refine g_callI (as := [zR 32, zI (H1 41 l1)]) (rest := []) zp105 rfl rfl (Nat.succ_pos _) rfl rfl (Nat.le_of_ble_eq_true rfl) (Nat.le_of_ble_eq_true rfl) rfl rfl h (fun x6 H5 h => ?_)
    exact g_ret zp105 rfl rfl ⟨_, rfl, h⟩
  · replace h := h.2 c3
    refine g_al zp105 rfl rfl rfl (by decide) ?_
    refine g_ic zp105 rfl rfl ?_
    refine g_callI (as := [zR 32, zI 2]) (rest := []) zp105 rfl rfl (Nat.succ_pos _) rfl rfl (Nat.le_of_ble_eq_true rfl) (Nat.le_of_ble_eq_true rfl) rfl rfl h (fun x8 H7 h => ?_)
    exact g_ret zp105 rfl rfl ⟨_, rfl, h⟩
theorem zp106 : zprog.getD 106 [] = zk106 := rfl
theorem x106_0 {w : zWt} {d : Nat} {H : zHt} {K : Int → zHt → Prop} {l1 : Int}
    (h : (l1 < 0 → K 0 H) ∧ (0 ≤ l1 → ((H 40 1) ≤ l1 → K 0 H) ∧ (l1 < (H 40 1) → (6 ≤ l1 → K 0 H) ∧ (l1 < 6 → K 1 H)))) :
    zclI w d 106 [zR 32, zI l1] H K := by
  show zgo w d 106 0 [zR 32, zI l1] [] H (zQI K)
  refine g_il zp106 rfl rfl rfl ?_
  refine g_if zp106 rfl rfl zc2 (fun c1 => ?_) (fun c1 => ?_)
  · replace h := h.1 c1
    refine g_ic zp106 rfl rfl ?_
    exact g_ret zp106 rfl (zret_b (by decide)) ⟨_, rfl, h⟩
  · replace h := h.2 c1
    refine g_il zp106 rfl rfl rfl ?_
    refine g_al zp106 rfl rfl rfl (by decide) ?_
    refine g_get (v := zR 40) zp106 rfl rfl rfl ⟨rfl, by decide, (by decide)⟩ rfl ?_
    refine g_get (v := zI (H 40 1)) zp106 rfl rfl rfl ⟨rfl, by decide, (by decide)⟩ rfl ?_
    refine g_icmp zp106 rfl rfl zc3 (fun c2 => ?_) (fun c2 => ?_)
    · replace h := h.1 c2
      refine g_ic zp106 rfl rfl ?_
      exact g_ret zp106 rfl (zret_b (by decide)) ⟨_, rfl, h⟩
    · replace h := h.2 c2
      refine g_il zp106 rfl rfl rfl ?_
      refine g_al zp106 rfl rfl rfl (by decide) ?_
      refine g_get (v := zR 45) zp106 rfl rfl rfl ⟨rfl, by decide, (by decide)⟩ rfl ?_
      refine g_len zp106 rfl rfl rfl (by decide) ?_
      refine g_icmp zp106 rfl rfl zc3 (fun c3 => ?_) (fun c3 => ?_)
      · replace h := h.1 c3
        refine g_ic zp106 rfl rfl ?_
        exact g_ret zp106 rfl (zret_b (by decide)) ⟨_, rfl, h⟩
      · replace h := h.2 c3
        refine g_ic zp106 rfl rfl ?_
        refine g_goto zp106 rfl ?_
        exact g_ret zp106 rfl (zret_b (by decide)) ⟨_, rfl, h⟩
theorem zp107 : zprog.getD 107 [] = zk107 := rfl
theorem x107_0 {w : zWt} {d : Nat} {H : zHt} {K : Int → zHt → Prop} {l1 : Int} {l2 : Int}
    (h : ((-1) ≤ l2 → zclI w d 106 [zR 32, zI l1] H (fun x3 H2 => (¬ x3 = 0 → zclR w d 108 [zR 32, zI l1] H2 (fun x6 H5 => (zisW x6) ∧ (¬ l2 = (-1) → ((H5 x6 1) ≤ l2 → zclI w d 13 [zR 32, zI 5] H5 (fun x10 H9 => K x10 H9)) ∧ (l2 < (H5 x6 1) → (0 ≤ l2 ∧ l2 < 101) ∧ zclI w d 39 [zR 32, zI (H5 (x6 + 1) l2)] H5 (fun x13 H12 => K x13 H12))) ∧ (l2 = (-1) → zclI w d 39 [zR 32, zI (H5 x6 1)] H5 (fun x15 H14 => K x15 H14)))) ∧ (x3 = 0 → zclI w d 13 [zR 32, zI 2] H2 (fun x17 H16 => K x17 H16)))) ∧ (l2 < (-1) → zclI w d 13 [zR 32, zI 1] H (fun x19 H18 => K x19 H18))) :
    zclI w (d + 1) 107 [zR 32, zI l1, zI l2] H K := by
  show zgo w (d + 1) 107 0 [zR 32, zI l1, zI l2, zJ] [] H (zQI K)
  refine g_il zp107 rfl rfl rfl ?_
  refine g_ic zp107 rfl rfl ?_
  refine g_icmp zp107 rfl rfl zc3 (fun c1 => ?_) (fun c1 => ?_)
  · replace h := h.1 c1
    refine g_al zp107 rfl rfl rfl (by decide) ?_
    refine g_il zp107 rfl rfl rfl ?_
    refine g_callI (as := [zR 32, zI l1]) (rest := []) zp107 rfl rfl (Nat.succ_pos _) rfl rfl (Nat.le_of_ble_eq_true rfl) (Nat.le_of_ble_eq_true rfl) rfl rfl h (fun x3 H2 h => ?_)
    refine g_if zp107 rfl rfl zc1 (fun c4 => ?_) (fun c4 => ?_)
    · replace h := h.1 c4
      refine g_al zp107 rfl rfl rfl (by decide) ?_
      refine g_il zp107 rfl rfl rfl ?_
      refine g_callR (as := [zR 32, zI l1]) (rest := []) zp107 rfl rfl (Nat.succ_pos _) rfl rfl (Nat.le_of_ble_eq_true rfl) (Nat.le_of_ble_eq_true rfl) rfl rfl h (fun x6 H5 h => ?_)
      obtain ⟨fx6, h⟩ := h
      refine g_as (ls' := [zR 32, zI l1, zI l2, zR x6]) zp107 rfl rfl (Nat.le_of_ble_eq_true rfl) (Int.le_trans (by decide) (zW_ge fx6)) rfl ?_
      refine g_il zp107 rfl rfl rfl ?_
      refine g_ic zp107 rfl rfl ?_
      refine g_icmp zp107 rfl rfl zc1 (fun c7 => ?_) (fun c7 => ?_)
      · replace h := h.1 c7
        refine g_il zp107 rfl rfl rfl ?_
        refine g_al zp107 rfl rfl rfl (Int.le_trans (by decide) (zW_ge fx6)) ?_
        refine g_get (v := zI (H5 x6 1)) zp107 rfl rfl (zW_sh fx6) ⟨rfl, by decide, (zW_ge fx6)⟩ (congrArg (ztag _) (zM_no (zW_ge fx6) (zW_fx fx6 1 (by decide)))) ?_
        refine g_icmp zp107 rfl rfl zc3 (fun c8 => ?_) (fun c8 => ?_)
        · replace h := h.1 c8
          refine g_al zp107 rfl rfl rfl (by decide) ?_
          refine g_ic zp107 rfl rfl ?_
          refine g_callI (as := [zR 32, zI 5]) (rest := []) zp107 rfl rfl (Nat.succ_pos _) rfl rfl (Nat.le_of_ble_eq_true rfl) (Nat.le_of_ble_eq_true rfl) rfl rfl h (fun x10 H9 h => ?_)
          exact g_ret zp107 rfl rfl ⟨_, rfl, h⟩
        · replace h := h.2 c8
          refine g_al zp107 rfl rfl rfl (by decide) ?_
          refine g_al zp107 rfl rfl rfl (Int.le_trans (by decide) (zW_ge fx6)) ?_
          refine g_get (v := zR (x6 + 1)) zp107 rfl rfl (zW_sh fx6) ⟨rfl, by decide, (zW_ge fx6)⟩ (congrArg (ztag _) (zW_f0 fx6)) ?_
          refine g_il zp107 rfl rfl rfl ?_
          obtain ⟨c11, h⟩ := h
          refine g_ald (v := zI (H5 (x6 + 1) l2)) zp107 rfl rfl (zW_sh1 fx6) rfl c11 (congrArg (ztag _) (zM_no (zW_ge1 fx6) (zW_fx1 fx6 _))) ?_
          refine g_callI (as := [zR 32, zI (H5 (x6 + 1) l2)]) (rest := []) zp107 rfl rfl (Nat.succ_pos _) rfl rfl (Nat.le_of_ble_eq_true rfl) (Nat.le_of_ble_eq_true rfl) rfl rfl h (fun x13 H12 h => ?_)
          refine g_goto zp107 rfl ?_
          exact g_ret zp107 rfl rfl ⟨_, rfl, h⟩
      · replace h := h.2 c7
        refine g_al zp107 rfl rfl rfl (by decide) ?_
        refine g_al zp107 rfl rfl rfl (Int.le_trans (by decide) (zW_ge fx6)) ?_
        refine g_get (v := zI (H5 x6 1)) zp107 rfl rfl (zW_sh fx6) ⟨rfl, by decide, (zW_ge fx6)⟩ (congrArg (ztag _) (zM_no (zW_ge fx6) (zW_fx fx6 1 (by decide)))) ?_
        refine g_callI (as := [zR 32, zI (H5 x6 1)]) (rest := []) zp107 rfl rfl (Nat.succ_pos _) rfl rfl (Nat.le_of_ble_eq_true rfl) (Nat.le_of_ble_eq_true rfl) rfl rfl h (fun x15 H14 h => ?_)
        exact g_ret zp107 rfl rfl ⟨_, rfl, h⟩
    · replace h := h.2 c4
      refine g_al zp107 rfl rfl rfl (by decide) ?_
      refine g_ic zp107 rfl rfl ?_
      refine g_callI (as := [zR 32, zI 2]) (rest := []) zp107 rfl rfl (Nat.succ_pos _) rfl rfl (Nat.le_of_ble_eq_true rfl) (Nat.le_of_ble_eq_true rfl) rfl rfl h (fun x17 H16 h => ?_)
      exact g_ret zp107 rfl rfl ⟨_, rfl, h⟩
  · replace h := h.2 c1
    refine g_al zp107 rfl rfl rfl (by decide) ?_
    refine g_ic zp107 rfl rfl ?_
    refine g_callI (as := [zR 32, zI 1]) (rest := []) zp107 rfl rfl (Nat.succ_pos _) rfl rfl (Nat.le_of_ble_eq_true rfl) (Nat.le_of_ble_eq_true rfl) rfl rfl h (fun x19 H18 h => ?_)
    exact g_ret zp107 rfl rfl ⟨_, rfl, h⟩
theorem zp108 : zprog.getD 108 [] = zk108 := rfl
theorem x108_0 {w : zWt} {d : Nat} {H : zHt} {K : Int → zHt → Prop} {l1 : Int}
    (h : (0 ≤ l1 ∧ l1 < 6) ∧ (¬ (H (69 + 2 * l1) 4) = 0 → K (69 + 2 * l1) H) ∧ ((H (69 + 2 * l1) 4) = 0 → zclV w d 109 [zR (69 + 2 * l1), zI (H 41 l1), zI (H 40 4), zR 40, zR 36] H (fun H3 => K (69 + 2 * l1) H3))) :
    zclR w (d + 1) 108 [zR 32, zI l1] H K := by
  show zgo w (d + 1) 108 0 [zR 32, zI l1, zJ] [] H (zQR K)
  refine g_al zp108 rfl rfl rfl (by decide) ?_
  refine g_get (v := zR 45) zp108 rfl rfl rfl ⟨rfl, by decide, (by decide)⟩ rfl ?_
  refine g_il zp108 rfl rfl rfl ?_
  obtain ⟨c1, h⟩ := h
  refine g_ald (v := zR (69 + 2 * l1)) zp108 rfl rfl rfl rfl c1 (congrArg (ztag _) (zwk_val c1)) ?_
  refine g_as (ls' := [zR 32, zI l1, zR (69 + 2 * l1)]) zp108 rfl rfl (Nat.le_of_ble_eq_true rfl) (Int.le_trans (by decide) (zW_ge (zW_walk c1))) rfl ?_
  refine g_al zp108 rfl rfl rfl (Int.le_trans (by decide) (zW_ge (zW_walk c1))) ?_
  refine g_get (v := zI (H (69 + 2 * l1) 4)) zp108 rfl rfl (zW_sh (zW_walk c1)) ⟨rfl, by decide, (zW_ge (zW_walk c1))⟩ (congrArg (ztag _) (zM_no (zW_ge (zW_walk c1)) (zW_fx (zW_walk c1) 4 (by decide)))) ?_
  refine g_if zp108 rfl rfl zc1 (fun c2 => ?_) (fun c2 => ?_)
  · replace h := h.1 c2
    refine g_al zp108 rfl rfl rfl (Int.le_trans (by decide) (zW_ge (zW_walk c1))) ?_
    exact g_ret zp108 rfl (zret_r (Int.le_trans (by decide) (zW_ge (zW_walk c1)))) ⟨_, rfl, h⟩
  · replace h := h.2 c2
    refine g_al zp108 rfl rfl rfl (Int.le_trans (by decide) (zW_ge (zW_walk c1))) ?_
    refine g_al zp108 rfl rfl rfl (by decide) ?_
    refine g_get (v := zR 40) zp108 rfl rfl rfl ⟨rfl, by decide, (by decide)⟩ rfl ?_
    refine g_get (v := zR 41) zp108 rfl rfl rfl ⟨rfl, by decide, (by decide)⟩ rfl ?_
    refine g_il zp108 rfl rfl rfl ?_
    refine g_ald (v := zI (H 41 l1)) zp108 rfl rfl rfl rfl c1 rfl ?_
    refine g_al zp108 rfl rfl rfl (by decide) ?_
    refine g_get (v := zR 40) zp108 rfl rfl rfl ⟨rfl, by decide, (by decide)⟩ rfl ?_
    refine g_get (v := zI (H 40 4)) zp108 rfl rfl rfl ⟨rfl, by decide, (by decide)⟩ rfl ?_
    refine g_al zp108 rfl rfl rfl (by decide) ?_
    refine g_get (v := zR 40) zp108 rfl rfl rfl ⟨rfl, by decide, (by decide)⟩ rfl ?_
    refine g_al zp108 rfl rfl rfl (by decide) ?_
    refine g_get (v := zR 36) zp108 rfl rfl rfl ⟨rfl, by decide, (by decide)⟩ rfl ?_
    refine g_callV (as := [zR (69 + 2 * l1), zI (H 41 l1), zI (H 40 4), zR 40, zR 36]) (rest := []) zp108 rfl rfl (Nat.succ_pos _) rfl rfl (Nat.le_of_ble_eq_true rfl) (Nat.le_of_ble_eq_true rfl) (zrecv_of (zW_sh (zW_walk c1)) rfl) rfl h (fun H3 h => ?_)
    refine g_al zp108 rfl rfl rfl (Int.le_trans (by decide) (zW_ge (zW_walk c1))) ?_
    exact g_ret zp108 rfl (zret_r (Int.le_trans (by decide) (zW_ge (zW_walk c1)))) ⟨_, rfl, h⟩
theorem zp109 : zprog.getD 109 [] = zk109 := rfl
theorem x109_0 {w : zWt} {d : Nat} {H : zHt} {K : zHt → Prop} {l0 : Int} (hl0 : zisW l0) {l1 : Int} {l2 : Int} {l3 : Int} (hl3 : zisD l3)
    (h : zgo w (d + 1) 109 30 [zR l0, zJ, zI l2, zR l3, zR 36, zI 1, zJ, zJ] [] (zup (zup (zup (zup (zup H (l0 + 1) 0 l1) l0 1 1) l0 2 3) l0 3 (-1)) l0 4 1) (zQV K)) :
    zclV w (d + 1) 109 [zR l0, zI l1, zI l2, zR l3, zR 36] H K := by
  show zgo w (d + 1) 109 0 [zR l0, zI l1, zI l2, zR l3, zR 36, zJ, zJ, zJ] [] H (zQV K)
  refine g_al zp109 rfl rfl rfl (Int.le_trans (by decide) (zW_ge hl0)) ?_
  refine g_get (v := zR (l0 + 1)) zp109 rfl rfl (zW_sh hl0) ⟨rfl, by decide, (zW_ge hl0)⟩ (congrArg (ztag _) (zW_f0 hl0)) ?_
  refine g_ic zp109 rfl rfl ?_
  refine g_il zp109 rfl rfl rfl ?_
  refine g_iast zp109 rfl rfl (zW_sh1 hl0) (zW_ge1 hl0) (zW_fx1 hl0 _) (by decide) ?_
  refine g_al zp109 rfl rfl rfl (Int.le_trans (by decide) (zW_ge hl0)) ?_
  refine g_ic zp109 rfl rfl ?_
  refine g_putI zp109 rfl rfl (zW_sh hl0) ⟨rfl, by decide, (zW_ge hl0)⟩ (zW_fx hl0 1 (by decide)) rfl ?_
  refine g_al zp109 rfl rfl rfl (Int.le_trans (by decide) (zW_ge hl0)) ?_
  refine g_ic zp109 rfl rfl ?_
  refine g_putI zp109 rfl rfl (zW_sh hl0) ⟨rfl, by decide, (zW_ge hl0)⟩ (zW_fx hl0 2 (by decide)) rfl ?_
  refine g_al zp109 rfl rfl rfl (Int.le_trans (by decide) (zW_ge hl0)) ?_
  refine g_ic zp109 rfl rfl ?_
  refine g_putI zp109 rfl rfl (zW_sh hl0) ⟨rfl, by decide, (zW_ge hl0)⟩ (zW_fx hl0 3 (by decide)) rfl ?_
  refine g_al zp109 rfl rfl rfl (Int.le_trans (by decide) (zW_ge hl0)) ?_
  refine g_ic zp109 rfl rfl ?_
  refine g_putI zp109 rfl rfl (zW_sh hl0) ⟨rfl, by decide, (zW_ge hl0)⟩ (zW_fx hl0 4 (by decide)) (zokv3 (by decide)) ?_
  refine g_ic zp109 rfl rfl ?_
  refine g_is (ls' := [zR l0, zI l1, zI l2, zR l3, zR 36, zI 1, zJ, zJ]) zp109 rfl rfl (Nat.le_of_ble_eq_true rfl) rfl ?_
  exact g_weak (ls' := [zR l0, zJ, zI l2, zR l3, zR 36, zI 1, zJ, zJ]) ⟨Or.inr rfl, Or.inl rfl, Or.inr rfl, Or.inr rfl, Or.inr rfl, Or.inr rfl, Or.inr rfl, Or.inr rfl, trivial⟩ h
theorem x109_30 {w : zWt} {d : Nat} {H : zHt} {K : zHt → Prop} {l0 : Int} (hl0 : zisW l0) {l2 : Int} {l3 : Int} (hl3 : zisD l3) {l5 : Int}
    (h : ((H l3 3) < l5 → K H) ∧ (l5 ≤ (H l3 3) → (101 ≤ l5 → K H) ∧ (l5 < 101 → (0 ≤ (w32 (l5 - 1)) ∧ (w32 (l5 - 1)) < 101) ∧ zclL w d 53 [zR 36, zI l2, zI (H (l0 + 1) (w32 (l5 - 1)))] H (fun x5 H4 => zclI w d 110 [zR l0, zL x5] H4 (fun x7 H6 => (((zup H6 l0 3 x7) l0 3) = (-1) → (x5 ≤ ((zup H6 l0 3 x7) l3 2) → (0 ≤ l5 ∧ l5 < 101) ∧ (¬ x5 = 0 → zgo w (d + 1) 109 30 [zR l0, zJ, zI l2, zR l3, zR 36, zI (w32 (l5 + 1)), zJ, zJ] [] (zup (zup (zup H6 l0 3 x7) (l0 + 1) l5 (w32 x5)) l0 1 (w32 (((zup (zup H6 l0 3 x7) (l0 + 1) l5 (w32 x5)) l0 1) + 1))) (zQV K)) ∧ (x5 = 0 → K (zup (zup (zup (zup H6 l0 3 x7) (l0 + 1) l5 (w32 x5)) l0 1 (w32 (((zup (zup H6 l0 3 x7) (l0 + 1) l5 (w32 x5)) l0 1) + 1))) l0 2 0))) ∧ (((zup H6 l0 3 x7) l3 2) < x5 → K (zup (zup H6 l0 3 x7) l0 2 2))) ∧ (¬ ((zup H6 l0 3 x7) l0 3) = (-1) → K (zup (zup H6 l0 3 x7) l0 2 1))))))) :
    zgo w (d + 1) 109 30 [zR l0, zJ, zI l2, zR l3, zR 36, zI l5, zJ, zJ] [] H (zQV K) := by
  refine g_il zp109 rfl rfl rfl ?_
  refine g_al zp109 rfl rfl rfl (Int.le_trans (by decide) (zD_ge hl3)) ?_
  refine g_get (v := zI (H l3 3)) zp109 rfl rfl (zD_sh hl3) ⟨rfl, by decide, (zD_ge hl3)⟩ (congrArg (ztag _) (zM_no (zD_ge hl3) (zD_fx hl3 3 (by decide)))) ?_
  refine g_icmp zp109 rfl rfl zc4 (fun c1 => ?_) (fun c1 => ?_)
  · replace h := h.1 c1
    exact g_ret zp109 rfl rfl ⟨rfl, h⟩
  · replace h := h.2 c1
    refine g_il zp109 rfl rfl rfl ?_
    refine g_al zp109 rfl rfl rfl (Int.le_trans (by decide) (zW_ge hl0)) ?_
    refine g_get (v := zR (l0 + 1)) zp109 rfl rfl (zW_sh hl0) ⟨rfl, by decide, (zW_ge hl0)⟩ (congrArg (ztag _) (zW_f0 hl0)) ?_
    refine g_len zp109 rfl rfl (zW_sh1 hl0) (by decide) ?_
    refine g_icmp zp109 rfl rfl zc3 (fun c2 => ?_) (fun c2 => ?_)
    · replace h := h.1 c2
      exact g_ret zp109 rfl rfl ⟨rfl, h⟩
    · replace h := h.2 c2
      refine g_al zp109 rfl rfl rfl (by decide) ?_
      refine g_il zp109 rfl rfl rfl ?_
      refine g_al zp109 rfl rfl rfl (Int.le_trans (by decide) (zW_ge hl0)) ?_
      refine g_get (v := zR (l0 + 1)) zp109 rfl rfl (zW_sh hl0) ⟨rfl, by decide, (zW_ge hl0)⟩ (congrArg (ztag _) (zW_f0 hl0)) ?_
      refine g_il zp109 rfl rfl rfl ?_
      refine g_ic zp109 rfl rfl ?_
      refine g_ar (r := w32 (l5 - 1)) zp109 rfl rfl rfl ?_
      obtain ⟨c3, h⟩ := h
      refine g_ald (v := zI (H (l0 + 1) (w32 (l5 - 1)))) zp109 rfl rfl (zW_sh1 hl0) rfl c3 (congrArg (ztag _) (zM_no (zW_ge1 hl0) (zW_fx1 hl0 _))) ?_
      refine g_callL (as := [zR 36, zI l2, zI (H (l0 + 1) (w32 (l5 - 1)))]) (rest := []) zp109 rfl rfl (Nat.succ_pos _) rfl rfl (Nat.le_of_ble_eq_true rfl) (Nat.le_of_ble_eq_true rfl) rfl rfl h (fun x5 H4 h => ?_)
      refine g_ls (ls' := [zR l0, zJ, zI l2, zR l3, zR 36, zI l5, zL x5, zJ]) zp109 rfl rfl (Nat.le_of_ble_eq_true rfl) rfl ?_
      refine g_al zp109 rfl rfl rfl (Int.le_trans (by decide) (zW_ge hl0)) ?_
      refine g_al zp109 rfl rfl rfl (Int.le_trans (by decide) (zW_ge hl0)) ?_
      refine g_ll zp109 rfl rfl rfl ?_
      refine g_callI (as := [zR l0, zL x5]) (rest := [zR l0]) zp109 rfl rfl (Nat.succ_pos _) rfl rfl (Nat.le_of_ble_eq_true rfl) (Nat.le_of_ble_eq_true rfl) (zrecv_of (zW_sh hl0) rfl) rfl h (fun x7 H6 h => ?_)
      refine g_putI zp109 rfl rfl (zW_sh hl0) ⟨rfl, by decide, (zW_ge hl0)⟩ (zW_fx hl0 3 (by decide)) rfl ?_
      refine g_al zp109 rfl rfl rfl (Int.le_trans (by decide) (zW_ge hl0)) ?_
      refine g_get (v := zI ((zup H6 l0 3 x7) l0 3)) zp109 rfl rfl (zW_sh hl0) ⟨rfl, by decide, (zW_ge hl0)⟩ (congrArg (ztag _) (zM_no (zW_ge hl0) (zW_fx hl0 3 (by decide)))) ?_
      refine g_ic zp109 rfl rfl ?_
      refine g_icmp zp109 rfl rfl zc0 (fun c8 => ?_) (fun c8 => ?_)
      · replace h := h.1 c8
        refine g_ll zp109 rfl rfl rfl ?_
        refine g_al zp109 rfl rfl rfl (Int.le_trans (by decide) (zD_ge hl3)) ?_
        refine g_get (v := zI ((zup H6 l0 3 x7) l3 2)) zp109 rfl rfl (zD_sh hl3) ⟨rfl, by decide, (zD_ge hl3)⟩ (congrArg (ztag _) (zM_no (zD_ge hl3) (zD_fx hl3 2 (by decide)))) ?_
        refine g_i2l zp109 rfl rfl ?_
        refine g_lcmp zp109 rfl rfl rfl rfl zc5 (fun c9 => ?_) (fun c9 => ?_)
        · replace h := h.1 c9
          refine g_al zp109 rfl rfl rfl (Int.le_trans (by decide) (zW_ge hl0)) ?_
          refine g_get (v := zR (l0 + 1)) zp109 rfl rfl (zW_sh hl0) ⟨rfl, by decide, (zW_ge hl0)⟩ (congrArg (ztag _) (zW_f0 hl0)) ?_
          refine g_il zp109 rfl rfl rfl ?_
          refine g_ll zp109 rfl rfl rfl ?_
          refine g_l2i zp109 rfl rfl ?_
          obtain ⟨c10, h⟩ := h
          refine g_iast zp109 rfl rfl (zW_sh1 hl0) (zW_ge1 hl0) (zW_fx1 hl0 _) c10 ?_
          refine g_al zp109 rfl rfl rfl (Int.le_trans (by decide) (zW_ge hl0)) ?_
          refine g_dup zp109 rfl rfl rfl ?_
          refine g_get (v := zI ((zup (zup H6 l0 3 x7) (l0 + 1) l5 (w32 x5)) l0 1)) zp109 rfl rfl (zW_sh hl0) ⟨rfl, by decide, (zW_ge hl0)⟩ (congrArg (ztag _) (zM_no (zW_ge hl0) (zW_fx hl0 1 (by decide)))) ?_
          refine g_ic zp109 rfl rfl ?_
          refine g_ar (r := w32 (((zup (zup H6 l0 3 x7) (l0 + 1) l5 (w32 x5)) l0 1) + 1)) zp109 rfl rfl rfl ?_
          refine g_putI zp109 rfl rfl (zW_sh hl0) ⟨rfl, by decide, (zW_ge hl0)⟩ (zW_fx hl0 1 (by decide)) rfl ?_
          refine g_ll zp109 rfl rfl rfl ?_
          refine g_lc zp109 rfl rfl ?_
          refine g_lcmp zp109 rfl rfl rfl rfl zc1 (fun c11 => ?_) (fun c11 => ?_)
          · replace h := h.1 c11
            refine g_inc (ls' := [zR l0, zJ, zI l2, zR l3, zR 36, zI (w32 (l5 + 1)), zL x5, zJ]) zp109 rfl rfl rfl rfl ?_
            refine g_goto zp109 rfl ?_
            exact g_weak (ls' := [zR l0, zJ, zI l2, zR l3, zR 36, zI (w32 (l5 + 1)), zJ, zJ]) ⟨Or.inr rfl, Or.inr rfl, Or.inr rfl, Or.inr rfl, Or.inr rfl, Or.inr rfl, Or.inl rfl, Or.inr rfl, trivial⟩ h
          · replace h := h.2 c11
            refine g_al zp109 rfl rfl rfl (Int.le_trans (by decide) (zW_ge hl0)) ?_
            refine g_ic zp109 rfl rfl ?_
            refine g_putI zp109 rfl rfl (zW_sh hl0) ⟨rfl, by decide, (zW_ge hl0)⟩ (zW_fx hl0 2 (by decide)) rfl ?_
            exact g_ret zp109 rfl rfl ⟨rfl, h⟩
        · replace h := h.2 c9
          refine g_al zp109 rfl rfl rfl (Int.le_trans (by decide) (zW_ge hl0)) ?_
          refine g_ic zp109 rfl rfl ?_
          refine g_putI zp109 rfl rfl (zW_sh hl0) ⟨rfl, by decide, (zW_ge hl0)⟩ (zW_fx hl0 2 (by decide)) rfl ?_
          exact g_ret zp109 rfl rfl ⟨rfl, h⟩
      · replace h := h.2 c8
        refine g_al zp109 rfl rfl rfl (Int.le_trans (by decide) (zW_ge hl0)) ?_
        refine g_ic zp109 rfl rfl ?_
        refine g_putI zp109 rfl rfl (zW_sh hl0) ⟨rfl, by decide, (zW_ge hl0)⟩ (zW_fx hl0 2 (by decide)) rfl ?_
        exact g_ret zp109 rfl rfl ⟨rfl, h⟩
theorem zp110 : zprog.getD 110 [] = zk110 := rfl
theorem x110_0 {w : zWt} {d : Nat} {H : zHt} {K : Int → zHt → Prop} {l0 : Int} (hl0 : zisW l0) {l1 : Int}
    (h : zgo w d 110 2 [zR l0, zL l1, zJ, zI 0] [] H (zQI K)) :
    zclI w d 110 [zR l0, zL l1] H K := by
  show zgo w d 110 0 [zR l0, zL l1, zJ, zJ] [] H (zQI K)
  refine g_ic zp110 rfl rfl ?_
  refine g_is (ls' := [zR l0, zL l1, zJ, zI 0]) zp110 rfl rfl (Nat.le_of_ble_eq_true rfl) rfl ?_
  exact g_weak (ls' := [zR l0, zL l1, zJ, zI 0]) ⟨Or.inr rfl, Or.inr rfl, Or.inr rfl, Or.inr rfl, trivial⟩ h
theorem x110_2 {w : zWt} {d : Nat} {H : zHt} {K : Int → zHt → Prop} {l0 : Int} (hl0 : zisW l0) {l1 : Int} {l3 : Int}
    (h : ((H l0 1) ≤ l3 → K (-1) H) ∧ (l3 < (H l0 1) → (0 ≤ l3 ∧ l3 < 101) ∧ (¬ (H (l0 + 1) l3) = l1 → zgo w d 110 2 [zR l0, zL l1, zJ, zI (w32 (l3 + 1))] [] H (zQI K)) ∧ ((H (l0 + 1) l3) = l1 → K l3 H))) :
    zgo w d 110 2 [zR l0, zL l1, zJ, zI l3] [] H (zQI K) := by
  refine g_il zp110 rfl rfl rfl ?_
  refine g_al zp110 rfl rfl rfl (Int.le_trans (by decide) (zW_ge hl0)) ?_
  refine g_get (v := zI (H l0 1)) zp110 rfl rfl (zW_sh hl0) ⟨rfl, by decide, (zW_ge hl0)⟩ (congrArg (ztag _) (zM_no (zW_ge hl0) (zW_fx hl0 1 (by decide)))) ?_
  refine g_icmp zp110 rfl rfl zc3 (fun c1 => ?_) (fun c1 => ?_)
  · replace h := h.1 c1
    refine g_ic zp110 rfl rfl ?_
    exact g_ret zp110 rfl rfl ⟨_, rfl, h⟩
  · replace h := h.2 c1
    refine g_al zp110 rfl rfl rfl (Int.le_trans (by decide) (zW_ge hl0)) ?_
    refine g_get (v := zR (l0 + 1)) zp110 rfl rfl (zW_sh hl0) ⟨rfl, by decide, (zW_ge hl0)⟩ (congrArg (ztag _) (zW_f0 hl0)) ?_
    refine g_il zp110 rfl rfl rfl ?_
    obtain ⟨c2, h⟩ := h
    refine g_ald (v := zI (H (l0 + 1) l3)) zp110 rfl rfl (zW_sh1 hl0) rfl c2 (congrArg (ztag _) (zM_no (zW_ge1 hl0) (zW_fx1 hl0 _))) ?_
    refine g_i2l zp110 rfl rfl ?_
    refine g_ll zp110 rfl rfl rfl ?_
    refine g_lcmp zp110 rfl rfl rfl rfl zc1 (fun c3 => ?_) (fun c3 => ?_)
    · replace h := h.1 c3
      refine g_inc (ls' := [zR l0, zL l1, zJ, zI (w32 (l3 + 1))]) zp110 rfl rfl rfl rfl ?_
      refine g_goto zp110 rfl ?_
      exact g_weak (ls' := [zR l0, zL l1, zJ, zI (w32 (l3 + 1))]) ⟨Or.inr rfl, Or.inr rfl, Or.inr rfl, Or.inr rfl, trivial⟩ h
    · replace h := h.2 c3
      refine g_il zp110 rfl rfl rfl ?_
      exact g_ret zp110 rfl rfl ⟨_, rfl, h⟩
theorem zp111 : zprog.getD 111 [] = zk111 := rfl
theorem x111_0 {w : zWt} {d : Nat} {H : zHt} {K : Int → zHt → Prop} {l1 : Int}
    (h : zclI w d 106 [zR 32, zI l1] H (fun x2 H1 => (¬ x2 = 0 → zclR w d 108 [zR 32, zI l1] H1 (fun x5 H4 => (zisW x5) ∧ zclI w d 39 [zR 32, zI (H4 x5 2)] H4 (fun x7 H6 => K x7 H6))) ∧ (x2 = 0 → zclI w d 13 [zR 32, zI 2] H1 (fun x9 H8 => K x9 H8)))) :
    zclI w (d + 1) 111 [zR 32, zI l1] H K := by
  show zgo w (d + 1) 111 0 [zR 32, zI l1] [] H (zQI K)
  refine g_al zp111 rfl rfl rfl (by decide) ?_
  refine g_il zp111 rfl rfl rfl ?_
  refine g_callI (as := [zR 32, zI l1]) (rest := []) zp111 rfl rfl (Nat.succ_pos _) rfl rfl (Nat.le_of_ble_eq_true rfl) (Nat.le_of_ble_eq_true rfl) rfl rfl h (fun x2 H1 h => ?_)
  refine g_if zp111 rfl rfl zc1 (fun c3 => ?_) (fun c3 => ?_)
  · replace h := h.1 c3
    refine g_al zp111 rfl rfl rfl (by decide) ?_
    refine g_al zp111 rfl rfl rfl (by decide) ?_
    refine g_il zp111 rfl rfl rfl ?_
    refine g_callR (as := [zR 32, zI l1]) (rest := [zR 32]) zp111 rfl rfl (Nat.succ_pos _) rfl rfl (Nat.le_of_ble_eq_true rfl) (Nat.le_of_ble_eq_true rfl) rfl rfl h (fun x5 H4 h => ?_)
    obtain ⟨fx5, h⟩ := h
    refine g_get (v := zI (H4 x5 2)) zp111 rfl rfl (zW_sh fx5) ⟨rfl, by decide, (zW_ge fx5)⟩ (congrArg (ztag _) (zM_no (zW_ge fx5) (zW_fx fx5 2 (by decide)))) ?_
    refine g_callI (as := [zR 32, zI (H4 x5 2)]) (rest := []) zp111 rfl rfl (Nat.succ_pos _) rfl rfl (Nat.le_of_ble_eq_true rfl) (Nat.le_of_ble_eq_true rfl) rfl rfl h (fun x7 H6 h => ?_)
    exact g_ret zp111 rfl rfl ⟨_, rfl, h⟩
  · replace h := h.2 c3
    refine g_al zp111 rfl rfl rfl (by decide) ?_
    refine g_ic zp111 rfl rfl ?_
    refine g_callI (as := [zR 32, zI 2]) (rest := []) zp111 rfl rfl (Nat.succ_pos _) rfl rfl (Nat.le_of_ble_eq_true rfl) (Nat.le_of_ble_eq_true rfl) rfl rfl h (fun x9 H8 h => ?_)
    exact g_ret zp111 rfl rfl ⟨_, rfl, h⟩
theorem zp112 : zprog.getD 112 [] = zk112 := rfl
theorem x112_0 {w : zWt} {d : Nat} {H : zHt} {K : Int → zHt → Prop} {l1 : Int} {l2 : Int}
    (h : zclI w d 44 [zI l2, zI 2] H (fun x2 H1 => (¬ x2 = 0 → zclI w d 106 [zR 32, zI l1] H1 (fun x5 H4 => (¬ x5 = 0 → zclR w d 108 [zR 32, zI l1] H4 (fun x8 H7 => (zisW x8) ∧ ((H7 x8 2) = 1 → (l2 = 0 → zclI w d 39 [zR 32, zI (H7 x8 3)] H7 (fun x11 H10 => K x11 H10)) ∧ (l2 = 1 → zclI w d 39 [zR 32, zI (w32 ((H7 x8 1) - (H7 x8 3)))] H7 (fun x13 H12 => K x13 H12)) ∧ (¬ l2 = 0 → ¬ l2 = 1 → zclI w d 113 [zR x8] H7 (fun x15 H14 => zclI w d 39 [zR 32, zI x15] H14 (fun x17 H16 => K x17 H16)))) ∧ (¬ (H7 x8 2) = 1 → zclI w d 13 [zR 32, zI 5] H7 (fun x19 H18 => K x19 H18)))) ∧ (x5 = 0 → zclI w d 13 [zR 32, zI 2] H4 (fun x21 H20 => K x21 H20)))) ∧ (x2 = 0 → zclI w d 13 [zR 32, zI 1] H1 (fun x23 H22 => K x23 H22)))) :
    zclI w (d + 1) 112 [zR 32, zI l1, zI l2] H K := by
  show zgo w (d + 1) 112 0 [zR 32, zI l1, zI l2, zJ] [] H (zQI K)
  refine g_il zp112 rfl rfl rfl ?_
  refine g_ic zp112 rfl rfl ?_
  refine g_callI (as := [zI l2, zI 2]) (rest := []) zp112 rfl rfl (Nat.succ_pos _) rfl rfl (Nat.le_of_ble_eq_true rfl) (Nat.le_of_ble_eq_true rfl) rfl rfl h (fun x2 H1 h => ?_)
  refine g_if zp112 rfl rfl zc1 (fun c3 => ?_) (fun c3 => ?_)
  · replace h := h.1 c3
    refine g_al zp112 rfl rfl rfl (by decide) ?_
    refine g_il zp112 rfl rfl rfl ?_
    refine g_callI (as := [zR 32, zI l1]) (rest := []) zp112 rfl rfl (Nat.succ_pos _) rfl rfl (Nat.le_of_ble_eq_true rfl) (Nat.le_of_ble_eq_true rfl) rfl rfl h (fun x5 H4 h => ?_)
    refine g_if zp112 rfl rfl zc1 (fun c6 => ?_) (fun c6 => ?_)
    · replace h := h.1 c6
      refine g_al zp112 rfl rfl rfl (by decide) ?_
      refine g_il zp112 rfl rfl rfl ?_
      refine g_callR (as := [zR 32, zI l1]) (rest := []) zp112 rfl rfl (Nat.succ_pos _) rfl rfl (Nat.le_of_ble_eq_true rfl) (Nat.le_of_ble_eq_true rfl) rfl rfl h (fun x8 H7 h => ?_)
      obtain ⟨fx8, h⟩ := h
      refine g_as (ls' := [zR 32, zI l1, zI l2, zR x8]) zp112 rfl rfl (Nat.le_of_ble_eq_true rfl) (Int.le_trans (by decide) (zW_ge fx8)) rfl ?_
      refine g_al zp112 rfl rfl rfl (Int.le_trans (by decide) (zW_ge fx8)) ?_
      refine g_get (v := zI (H7 x8 2)) zp112 rfl rfl (zW_sh fx8) ⟨rfl, by decide, (zW_ge fx8)⟩ (congrArg (ztag _) (zM_no (zW_ge fx8) (zW_fx fx8 2 (by decide)))) ?_
      refine g_ic zp112 rfl rfl ?_
      refine g_icmp zp112 rfl rfl zc0 (fun c9 => ?_) (fun c9 => ?_)
      · replace h := h.1 c9
        refine g_il zp112 rfl rfl rfl ?_
        rcases Classical.em (l2 = 0) with k0 | k0
        · replace h := h.1 k0
          refine g_lookE (z := 0) zp112 rfl k0 rfl ?_
          refine g_al zp112 rfl rfl rfl (by decide) ?_
          refine g_al zp112 rfl rfl rfl (Int.le_trans (by decide) (zW_ge fx8)) ?_
          refine g_get (v := zI (H7 x8 3)) zp112 rfl rfl (zW_sh fx8) ⟨rfl, by decide, (zW_ge fx8)⟩ (congrArg (ztag _) (zM_no (zW_ge fx8) (zW_fx fx8 3 (by decide)))) ?_
          refine g_callI (as := [zR 32, zI (H7 x8 3)]) (rest := []) zp112 rfl rfl (Nat.succ_pos _) rfl rfl (Nat.le_of_ble_eq_true rfl) (Nat.le_of_ble_eq_true rfl) rfl rfl h (fun x11 H10 h => ?_)
          exact g_ret zp112 rfl rfl ⟨_, rfl, h⟩
        · replace h := h.2
          rcases Classical.em (l2 = 1) with k1 | k1
          · replace h := h.1 k1
            refine g_lookE (z := 1) zp112 rfl k1 rfl ?_
            refine g_al zp112 rfl rfl rfl (by decide) ?_
            refine g_al zp112 rfl rfl rfl (Int.le_trans (by decide) (zW_ge fx8)) ?_
            refine g_get (v := zI (H7 x8 1)) zp112 rfl rfl (zW_sh fx8) ⟨rfl, by decide, (zW_ge fx8)⟩ (congrArg (ztag _) (zM_no (zW_ge fx8) (zW_fx fx8 1 (by decide)))) ?_
            refine g_al zp112 rfl rfl rfl (Int.le_trans (by decide) (zW_ge fx8)) ?_
            refine g_get (v := zI (H7 x8 3)) zp112 rfl rfl (zW_sh fx8) ⟨rfl, by decide, (zW_ge fx8)⟩ (congrArg (ztag _) (zM_no (zW_ge fx8) (zW_fx fx8 3 (by decide)))) ?_
            refine g_ar (r := w32 ((H7 x8 1) - (H7 x8 3))) zp112 rfl rfl rfl ?_
            refine g_callI (as := [zR 32, zI (w32 ((H7 x8 1) - (H7 x8 3)))]) (rest := []) zp112 rfl rfl (Nat.succ_pos _) rfl rfl (Nat.le_of_ble_eq_true rfl) (Nat.le_of_ble_eq_true rfl) rfl rfl h (fun x13 H12 h => ?_)
            exact g_ret zp112 rfl rfl ⟨_, rfl, h⟩
          · replace h := h.2
            replace h := h k0 k1
            refine g_look (q := 99) zp112 rfl (by simp only [zlook, k0, k1, if_false]) ?_
            refine g_al zp112 rfl rfl rfl (by decide) ?_
            refine g_al zp112 rfl rfl rfl (Int.le_trans (by decide) (zW_ge fx8)) ?_
            refine g_callI (as := [zR x8]) (rest := [zR 32]) zp112 rfl rfl (Nat.succ_pos _) rfl rfl (Nat.le_of_ble_eq_true rfl) (Nat.le_of_ble_eq_true rfl) (zrecv_of (zW_sh fx8) rfl) rfl h (fun x15 H14 h => ?_)
            refine g_callI (as := [zR 32, zI x15]) (rest := []) zp112 rfl rfl (Nat.succ_pos _) rfl rfl (Nat.le_of_ble_eq_true rfl) (Nat.le_of_ble_eq_true rfl) rfl rfl h (fun x17 H16 h => ?_)
            exact g_ret zp112 rfl rfl ⟨_, rfl, h⟩
      · replace h := h.2 c9
        refine g_al zp112 rfl rfl rfl (by decide) ?_
        refine g_ic zp112 rfl rfl ?_
        refine g_callI (as := [zR 32, zI 5]) (rest := []) zp112 rfl rfl (Nat.succ_pos _) rfl rfl (Nat.le_of_ble_eq_true rfl) (Nat.le_of_ble_eq_true rfl) rfl rfl h (fun x19 H18 h => ?_)
        exact g_ret zp112 rfl rfl ⟨_, rfl, h⟩
    · replace h := h.2 c6
      refine g_al zp112 rfl rfl rfl (by decide) ?_
      refine g_ic zp112 rfl rfl ?_
      refine g_callI (as := [zR 32, zI 2]) (rest := []) zp112 rfl rfl (Nat.succ_pos _) rfl rfl (Nat.le_of_ble_eq_true rfl) (Nat.le_of_ble_eq_true rfl) rfl rfl h (fun x21 H20 h => ?_)
      exact g_ret zp112 rfl rfl ⟨_, rfl, h⟩
  · replace h := h.2 c3
    refine g_al zp112 rfl rfl rfl (by decide) ?_
    refine g_ic zp112 rfl rfl ?_
    refine g_callI (as := [zR 32, zI 1]) (rest := []) zp112 rfl rfl (Nat.succ_pos _) rfl rfl (Nat.le_of_ble_eq_true rfl) (Nat.le_of_ble_eq_true rfl) rfl rfl h (fun x23 H22 h => ?_)
    exact g_ret zp112 rfl rfl ⟨_, rfl, h⟩
theorem zp113 : zprog.getD 113 [] = zk113 := rfl
theorem x113_0 {w : zWt} {d : Nat} {H : zHt} {K : Int → zHt → Prop} {l0 : Int} (hl0 : zisW l0)
    (h : zclI w d 114 [zR l0] H (fun x2 H1 => zgo w (d + 1) 113 14 [zR l0, zI x2, zI (if 0 < H1 l0 3 then H1 l0 3 else 0)] [] H1 (zQI K))) :
    zclI w (d + 1) 113 [zR l0] H K := by
  show zgo w (d + 1) 113 0 [zR l0, zJ, zJ] [] H (zQI K)
  refine g_al zp113 rfl rfl rfl (Int.le_trans (by decide) (zW_ge hl0)) ?_
  refine g_callI (as := [zR l0]) (rest := []) zp113 rfl rfl (Nat.succ_pos _) rfl rfl (Nat.le_of_ble_eq_true rfl) (Nat.le_of_ble_eq_true rfl) (zrecv_of (zW_sh hl0) rfl) rfl h (fun x2 H1 h => ?_)
  refine g_is (ls' := [zR l0, zI x2, zJ]) zp113 rfl rfl (Nat.le_of_ble_eq_true rfl) rfl ?_
  refine g_ic zp113 rfl rfl ?_
  refine g_al zp113 rfl rfl rfl (Int.le_trans (by decide) (zW_ge hl0)) ?_
  refine g_get (v := zI (H1 l0 3)) zp113 rfl rfl (zW_sh hl0) ⟨rfl, by decide, (zW_ge hl0)⟩ (congrArg (ztag _) (zM_no (zW_ge hl0) (zW_fx hl0 3 (by decide)))) ?_
  refine g_mmax zp113 rfl rfl (Nat.le_of_ble_eq_true rfl) ?_
  refine g_is (ls' := [zR l0, zI x2, zI (if 0 < H1 l0 3 then H1 l0 3 else 0)]) zp113 rfl rfl (Nat.le_of_ble_eq_true rfl) rfl ?_
  exact g_weak (ls' := [zR l0, zI x2, zI (if 0 < H1 l0 3 then H1 l0 3 else 0)]) ⟨Or.inr rfl, Or.inr rfl, Or.inr rfl, trivial⟩ h
theorem x113_14 {w : zWt} {d : Nat} {H : zHt} {K : Int → zHt → Prop} {l0 : Int} (hl0 : zisW l0) {l1 : Int} {l2 : Int}
    (h : ((H l0 1) ≤ l2 → K l1 H) ∧ (l2 < (H l0 1) → (0 ≤ l2 ∧ l2 < 101) ∧ zgo w (d + 1) 113 14 [zR l0, zI (if H (l0 + 1) l2 < l1 then H (l0 + 1) l2 else l1), zI (w32 (l2 + 1))] [] H (zQI K))) :
    zgo w (d + 1) 113 14 [zR l0, zI l1, zI l2] [] H (zQI K) := by
  refine g_il zp113 rfl rfl rfl ?_
  refine g_al zp113 rfl rfl rfl (Int.le_trans (by decide) (zW_ge hl0)) ?_
  refine g_get (v := zI (H l0 1)) zp113 rfl rfl (zW_sh hl0) ⟨rfl, by decide, (zW_ge hl0)⟩ (congrArg (ztag _) (zM_no (zW_ge hl0) (zW_fx hl0 1 (by decide)))) ?_
  refine g_icmp zp113 rfl rfl zc3 (fun c1 => ?_) (fun c1 => ?_)
  · replace h := h.1 c1
    refine g_il zp113 rfl rfl rfl ?_
    exact g_ret zp113 rfl rfl ⟨_, rfl, h⟩
  · replace h := h.2 c1
    refine g_il zp113 rfl rfl rfl ?_
    refine g_al zp113 rfl rfl rfl (Int.le_trans (by decide) (zW_ge hl0)) ?_
    refine g_get (v := zR (l0 + 1)) zp113 rfl rfl (zW_sh hl0) ⟨rfl, by decide, (zW_ge hl0)⟩ (congrArg (ztag _) (zW_f0 hl0)) ?_
    refine g_il zp113 rfl rfl rfl ?_
    obtain ⟨c2, h⟩ := h
    refine g_ald (v := zI (H (l0 + 1) l2)) zp113 rfl rfl (zW_sh1 hl0) rfl c2 (congrArg (ztag _) (zM_no (zW_ge1 hl0) (zW_fx1 hl0 _))) ?_
    refine g_mmin zp113 rfl rfl (Nat.le_of_ble_eq_true rfl) ?_
    refine g_is (ls' := [zR l0, zI (if H (l0 + 1) l2 < l1 then H (l0 + 1) l2 else l1), zI l2]) zp113 rfl rfl (Nat.le_of_ble_eq_true rfl) rfl ?_
    refine g_inc (ls' := [zR l0, zI (if H (l0 + 1) l2 < l1 then H (l0 + 1) l2 else l1), zI (w32 (l2 + 1))]) zp113 rfl rfl rfl rfl ?_
    refine g_goto zp113 rfl ?_
    exact g_weak (ls' := [zR l0, zI (if H (l0 + 1) l2 < l1 then H (l0 + 1) l2 else l1), zI (w32 (l2 + 1))]) ⟨Or.inr rfl, Or.inr rfl, Or.inr rfl, trivial⟩ h
theorem zp114 : zprog.getD 114 [] = zk114 := rfl
theorem x114_0 {w : zWt} {d : Nat} {H : zHt} {K : Int → zHt → Prop} {l0 : Int} (hl0 : zisW l0)
    (h : (0 ≤ (if 0 < w32 ((H l0 1) - 1) then w32 ((H l0 1) - 1) else 0) ∧ (if 0 < w32 ((H l0 1) - 1) then w32 ((H l0 1) - 1) else 0) < 101) ∧ K (H (l0 + 1) (if 0 < w32 ((H l0 1) - 1) then w32 ((H l0 1) - 1) else 0)) H) :
    zclI w d 114 [zR l0] H K := by
  show zgo w d 114 0 [zR l0] [] H (zQI K)
  refine g_al zp114 rfl rfl rfl (Int.le_trans (by decide) (zW_ge hl0)) ?_
  refine g_get (v := zR (l0 + 1)) zp114 rfl rfl (zW_sh hl0) ⟨rfl, by decide, (zW_ge hl0)⟩ (congrArg (ztag _) (zW_f0 hl0)) ?_
  refine g_ic zp114 rfl rfl ?_
  refine g_al zp114 rfl rfl rfl (Int.le_trans (by decide) (zW_ge hl0)) ?_
  refine g_get (v := zI (H l0 1)) zp114 rfl rfl (zW_sh hl0) ⟨rfl, by decide, (zW_ge hl0)⟩ (congrArg (ztag _) (zM_no (zW_ge hl0) (zW_fx hl0 1 (by decide)))) ?_
  refine g_ic zp114 rfl rfl ?_
  refine g_ar (r := w32 ((H l0 1) - 1)) zp114 rfl rfl rfl ?_
  refine g_mmax zp114 rfl rfl (Nat.le_of_ble_eq_true rfl) ?_
  obtain ⟨c1, h⟩ := h
  refine g_ald (v := zI (H (l0 + 1) (if 0 < w32 ((H l0 1) - 1) then w32 ((H l0 1) - 1) else 0))) zp114 rfl rfl (zW_sh1 hl0) rfl c1 (congrArg (ztag _) (zM_no (zW_ge1 hl0) (zW_fx1 hl0 _))) ?_
  exact g_ret zp114 rfl rfl ⟨_, rfl, h⟩
