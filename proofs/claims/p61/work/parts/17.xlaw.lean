/-! segments: what suffices for a run from there on (by wip/p61/gen3.py) -/
theorem zp170 : zprog.getD 170 [] = zk170 := rfl
theorem x170_0 {w : zWt} {d : Nat} {H : zHt} {K : Int → zHt → Prop} {l1 : Int}
    (h : ((w.1 : Int) ≤ l1 → K 0 H) ∧ (l1 < (w.1 : Int) → (0 ≤ l1 ∧ l1 < (w.1 : Int)) ∧ K (zH0 w.2.1 0 l1) H)) :
    zclI w d 170 [zR 0, zI l1] H K := by
  show zgo w d 170 0 [zR 0, zI l1] [] H (zQI K)
  refine g_il zp170 rfl rfl rfl ?_
  refine g_al zp170 rfl rfl rfl (by decide) ?_
  refine g_len zp170 rfl rfl rfl (by decide) ?_
  refine g_icmp zp170 rfl rfl zc3 (fun c1 => ?_) (fun c1 => ?_)
  · replace h := h.1 c1
    refine g_ic zp170 rfl rfl ?_
    exact g_ret zp170 rfl rfl ⟨_, rfl, h⟩
  · replace h := h.2 c1
    refine g_al zp170 rfl rfl rfl (by decide) ?_
    refine g_il zp170 rfl rfl rfl ?_
    obtain ⟨c2, h⟩ := h
    refine g_ald (v := zI (zH0 w.2.1 0 l1)) zp170 rfl rfl rfl rfl c2 rfl ?_
    refine g_goto zp170 rfl ?_
    exact g_ret zp170 rfl rfl ⟨_, rfl, h⟩
theorem zp171 : zprog.getD 171 [] = zk171 := rfl
theorem x171_0 {w : zWt} {d : Nat} {H : zHt} {K : Int → zHt → Prop} {l0 : Int} {l1 : Int}
    (h : (l1 ≠ 0) ∧ K (Int.tmod (zand l0 2147483647) l1) H) :
    zclI w d 171 [zI l0, zI l1] H K := by
  show zgo w d 171 0 [zI l0, zI l1] [] H (zQI K)
  refine g_il zp171 rfl rfl rfl ?_
  refine g_ic zp171 rfl rfl ?_
  refine g_ar (r := zand l0 2147483647) zp171 rfl rfl rfl ?_
  refine g_il zp171 rfl rfl rfl ?_
  obtain ⟨c1, h⟩ := h
  refine g_ar (r := Int.tmod (zand l0 2147483647) l1) zp171 rfl rfl (zr_rem c1) ?_
  exact g_ret zp171 rfl rfl ⟨_, rfl, h⟩
theorem zp172 : zprog.getD 172 [] = zk172 := rfl
theorem x172_0 {w : zWt} {d : Nat} {H : zHt} {K : Int → zHt → Prop} {l0 : Int} {l1 : Int}
    (h : (¬ l1 = 0 → (l1 ≠ 0) ∧ zclI w d 172 [zI l1, zI (Int.tmod l0 l1)] H (fun x4 H3 => K x4 H3)) ∧ (l1 = 0 → K l0 H)) :
    zclI w (d + 1) 172 [zI l0, zI l1] H K := by
  show zgo w (d + 1) 172 0 [zI l0, zI l1] [] H (zQI K)
  refine g_il zp172 rfl rfl rfl ?_
  refine g_if zp172 rfl rfl zc1 (fun c1 => ?_) (fun c1 => ?_)
  · replace h := h.1 c1
    refine g_il zp172 rfl rfl rfl ?_
    refine g_il zp172 rfl rfl rfl ?_
    refine g_il zp172 rfl rfl rfl ?_
    obtain ⟨c2, h⟩ := h
    refine g_ar (r := Int.tmod l0 l1) zp172 rfl rfl (zr_rem c2) ?_
    refine g_callI (as := [zI l1, zI (Int.tmod l0 l1)]) (rest := []) zp172 rfl rfl (Nat.succ_pos _) rfl rfl (Nat.le_of_ble_eq_true rfl) (Nat.le_of_ble_eq_true rfl) rfl rfl h (fun x4 H3 h => ?_)
    exact g_ret zp172 rfl rfl ⟨_, rfl, h⟩
  · replace h := h.2 c1
    refine g_il zp172 rfl rfl rfl ?_
    refine g_goto zp172 rfl ?_
    exact g_ret zp172 rfl rfl ⟨_, rfl, h⟩
theorem zp173 : zprog.getD 173 [] = zk173 := rfl
theorem x173_0 {w : zWt} {d : Nat} {H : zHt} {K : Int → zHt → Prop} {l0 : Int}
    (h : zgo w d 173 2 [zI l0, zI 2] [] H (zQI K)) :
    zclI w d 173 [zI l0] H K := by
  show zgo w d 173 0 [zI l0, zJ] [] H (zQI K)
  refine g_ic zp173 rfl rfl ?_
  refine g_is (ls' := [zI l0, zI 2]) zp173 rfl rfl (Nat.le_of_ble_eq_true rfl) rfl ?_
  exact g_weak (ls' := [zI l0, zI 2]) ⟨Or.inr rfl, Or.inr rfl, trivial⟩ h
theorem x173_2 {w : zWt} {d : Nat} {H : zHt} {K : Int → zHt → Prop} {l0 : Int} {l1 : Int}
    (h : (l0 < (w32 (l1 * l1)) → K 1 H) ∧ ((w32 (l1 * l1)) ≤ l0 → ((w32 (l1 * l1)) ≠ 0) ∧ (¬ (Int.tmod l0 (w32 (l1 * l1))) = 0 → zgo w d 173 2 [zI l0, zI (w32 (l1 + 1))] [] H (zQI K)) ∧ ((Int.tmod l0 (w32 (l1 * l1))) = 0 → K 0 H))) :
    zgo w d 173 2 [zI l0, zI l1] [] H (zQI K) := by
  refine g_il zp173 rfl rfl rfl ?_
  refine g_il zp173 rfl rfl rfl ?_
  refine g_ar (r := w32 (l1 * l1)) zp173 rfl rfl rfl ?_
  refine g_il zp173 rfl rfl rfl ?_
  refine g_icmp zp173 rfl rfl zc4 (fun c1 => ?_) (fun c1 => ?_)
  · replace h := h.1 c1
    refine g_ic zp173 rfl rfl ?_
    exact g_ret zp173 rfl (zret_b (by decide)) ⟨_, rfl, h⟩
  · replace h := h.2 c1
    refine g_il zp173 rfl rfl rfl ?_
    refine g_il zp173 rfl rfl rfl ?_
    refine g_il zp173 rfl rfl rfl ?_
    refine g_ar (r := w32 (l1 * l1)) zp173 rfl rfl rfl ?_
    obtain ⟨c2, h⟩ := h
    refine g_ar (r := Int.tmod l0 (w32 (l1 * l1))) zp173 rfl rfl (zr_rem c2) ?_
    refine g_if zp173 rfl rfl zc1 (fun c3 => ?_) (fun c3 => ?_)
    · replace h := h.1 c3
      refine g_inc (ls' := [zI l0, zI (w32 (l1 + 1))]) zp173 rfl rfl rfl rfl ?_
      refine g_goto zp173 rfl ?_
      exact g_weak (ls' := [zI l0, zI (w32 (l1 + 1))]) ⟨Or.inr rfl, Or.inr rfl, trivial⟩ h
    · replace h := h.2 c3
      refine g_ic zp173 rfl rfl ?_
      exact g_ret zp173 rfl (zret_b (by decide)) ⟨_, rfl, h⟩
theorem zp174 : zprog.getD 174 [] = zk174 := rfl
theorem x174_0 {w : zWt} {d : Nat} {H : zHt} {K : Int → zHt → Prop} {l0 : Int} {l1 : Int}
    (h : zgo w (d + 1) 174 5 [zI l0, zI l1, zL 0, zJ, zI 1] [] H (zQL K)) :
    zclL w (d + 1) 174 [zI l0, zI l1] H K := by
  show zgo w (d + 1) 174 0 [zI l0, zI l1, zJ, zJ, zJ] [] H (zQL K)
  refine g_lc zp174 rfl rfl ?_
  refine g_ls (ls' := [zI l0, zI l1, zL 0, zJ, zJ]) zp174 rfl rfl (Nat.le_of_ble_eq_true rfl) rfl ?_
  refine g_ic zp174 rfl rfl ?_
  refine g_is (ls' := [zI l0, zI l1, zL 0, zJ, zI 1]) zp174 rfl rfl (Nat.le_of_ble_eq_true rfl) rfl ?_
  exact g_weak (ls' := [zI l0, zI l1, zL 0, zJ, zI 1]) ⟨Or.inr rfl, Or.inr rfl, Or.inr rfl, Or.inr rfl, Or.inr rfl, trivial⟩ h
theorem x174_5 {w : zWt} {d : Nat} {H : zHt} {K : Int → zHt → Prop} {l0 : Int} {l1 : Int} {l2 : Int} {l4 : Int}
    (h : (l0 ≤ l4 → K l2 H) ∧ (l4 < l0 → (l4 ≠ 0) ∧ (¬ (Int.tmod l0 l4) = 0 → zgo w (d + 1) 174 5 [zI l0, zI l1, zL l2, zJ, zI (w32 (l4 + 1))] [] H (zQL K)) ∧ ((Int.tmod l0 l4) = 0 → (l1 = 0 → zgo w (d + 1) 174 5 [zI l0, zI l1, zL (w64 (l2 + l4)), zJ, zI (w32 (l4 + 1))] [] H (zQL K)) ∧ (¬ l1 = 0 → (¬ l1 = 1 → zgo w (d + 1) 174 40 [zI l0, zI l1, zL l2, zJ, zI l4] [] H (zQL K)) ∧ (l1 = 1 → zclI w d 172 [zI l4, zI (w32 (Int.tdiv l0 l4))] H (fun x7 H6 => (x7 = 1 → zgo w (d + 1) 174 5 [zI l0, zI l1, zL (w64 (l2 + l4)), zJ, zI (w32 (l4 + 1))] [] H6 (zQL K)) ∧ (¬ x7 = 1 → zgo w (d + 1) 174 40 [zI l0, zI l1, zL l2, zJ, zI l4] [] H6 (zQL K)))))))) :
    zgo w (d + 1) 174 5 [zI l0, zI l1, zL l2, zJ, zI l4] [] H (zQL K) := by
  refine g_il zp174 rfl rfl rfl ?_
  refine g_il zp174 rfl rfl rfl ?_
  refine g_icmp zp174 rfl rfl zc3 (fun c1 => ?_) (fun c1 => ?_)
  · replace h := h.1 c1
    refine g_ll zp174 rfl rfl rfl ?_
    exact g_ret zp174 rfl rfl ⟨_, rfl, h⟩
  · replace h := h.2 c1
    refine g_il zp174 rfl rfl rfl ?_
    refine g_il zp174 rfl rfl rfl ?_
    obtain ⟨c2, h⟩ := h
    refine g_ar (r := Int.tmod l0 l4) zp174 rfl rfl (zr_rem c2) ?_
    refine g_if zp174 rfl rfl zc1 (fun c3 => ?_) (fun c3 => ?_)
    · replace h := h.1 c3
      refine g_inc (ls' := [zI l0, zI l1, zL l2, zJ, zI (w32 (l4 + 1))]) zp174 rfl rfl rfl rfl ?_
      refine g_goto zp174 rfl ?_
      exact g_weak (ls' := [zI l0, zI l1, zL l2, zJ, zI (w32 (l4 + 1))]) ⟨Or.inr rfl, Or.inr rfl, Or.inr rfl, Or.inr rfl, Or.inr rfl, trivial⟩ h
    · replace h := h.2 c3
      refine g_il zp174 rfl rfl rfl ?_
      refine g_if zp174 rfl rfl zc0 (fun c4 => ?_) (fun c4 => ?_)
      · replace h := h.1 c4
        refine g_ll zp174 rfl rfl rfl ?_
        refine g_il zp174 rfl rfl rfl ?_
        refine g_i2l zp174 rfl rfl ?_
        refine g_lar (r := w64 (l2 + l4)) zp174 rfl rfl rfl ?_
        refine g_ls (ls' := [zI l0, zI l1, zL (w64 (l2 + l4)), zJ, zI l4]) zp174 rfl rfl (Nat.le_of_ble_eq_true rfl) rfl ?_
        refine g_inc (ls' := [zI l0, zI l1, zL (w64 (l2 + l4)), zJ, zI (w32 (l4 + 1))]) zp174 rfl rfl rfl rfl ?_
        refine g_goto zp174 rfl ?_
        exact g_weak (ls' := [zI l0, zI l1, zL (w64 (l2 + l4)), zJ, zI (w32 (l4 + 1))]) ⟨Or.inr rfl, Or.inr rfl, Or.inr rfl, Or.inr rfl, Or.inr rfl, trivial⟩ h
      · replace h := h.2 c4
        refine g_il zp174 rfl rfl rfl ?_
        refine g_ic zp174 rfl rfl ?_
        refine g_icmp zp174 rfl rfl zc1 (fun c5 => ?_) (fun c5 => ?_)
        · replace h := h.1 c5
          exact g_weak (ls' := [zI l0, zI l1, zL l2, zJ, zI l4]) ⟨Or.inr rfl, Or.inr rfl, Or.inr rfl, Or.inr rfl, Or.inr rfl, trivial⟩ h
        · replace h := h.2 c5
          refine g_il zp174 rfl rfl rfl ?_
          refine g_il zp174 rfl rfl rfl ?_
          refine g_il zp174 rfl rfl rfl ?_
          refine g_ar (r := w32 (Int.tdiv l0 l4)) zp174 rfl rfl (zr_div c2) ?_
          refine g_callI (as := [zI l4, zI (w32 (Int.tdiv l0 l4))]) (rest := []) zp174 rfl rfl (Nat.succ_pos _) rfl rfl (Nat.le_of_ble_eq_true rfl) (Nat.le_of_ble_eq_true rfl) rfl rfl h (fun x7 H6 h => ?_)
          refine g_ic zp174 rfl rfl ?_
          refine g_icmp zp174 rfl rfl zc0 (fun c8 => ?_) (fun c8 => ?_)
          · replace h := h.1 c8
            refine g_ll zp174 rfl rfl rfl ?_
            refine g_il zp174 rfl rfl rfl ?_
            refine g_i2l zp174 rfl rfl ?_
            refine g_lar (r := w64 (l2 + l4)) zp174 rfl rfl rfl ?_
            refine g_ls (ls' := [zI l0, zI l1, zL (w64 (l2 + l4)), zJ, zI l4]) zp174 rfl rfl (Nat.le_of_ble_eq_true rfl) rfl ?_
            refine g_inc (ls' := [zI l0, zI l1, zL (w64 (l2 + l4)), zJ, zI (w32 (l4 + 1))]) zp174 rfl rfl rfl rfl ?_
            refine g_goto zp174 rfl ?_
            exact g_weak (ls' := [zI l0, zI l1, zL (w64 (l2 + l4)), zJ, zI (w32 (l4 + 1))]) ⟨Or.inr rfl, Or.inr rfl, Or.inr rfl, Or.inr rfl, Or.inr rfl, trivial⟩ h
          · replace h := h.2 c8
            exact g_weak (ls' := [zI l0, zI l1, zL l2, zJ, zI l4]) ⟨Or.inr rfl, Or.inr rfl, Or.inr rfl, Or.inr rfl, Or.inr rfl, trivial⟩ h
theorem x174_40 {w : zWt} {d : Nat} {H : zHt} {K : Int → zHt → Prop} {l0 : Int} {l1 : Int} {l2 : Int} {l4 : Int}
    (h : (¬ l1 = 2 → (¬ l1 = 3 → zgo w (d + 1) 174 5 [zI l0, zI l1, zL l2, zJ, zI (w32 (l4 + 1))] [] H (zQL K)) ∧ (l1 = 3 → zclI w d 173 [zI l4] H (fun x4 H3 => (x4 = 0 → zgo w (d + 1) 174 5 [zI l0, zI l1, zL l2, zJ, zI (w32 (l4 + 1))] [] H3 (zQL K)) ∧ (¬ x4 = 0 → zgo w (d + 1) 174 5 [zI l0, zI l1, zL (w64 (l2 + l4)), zJ, zI (w32 (l4 + 1))] [] H3 (zQL K))))) ∧ (l1 = 2 → (1 < l4 → zgo w (d + 1) 174 5 [zI l0, zI l1, zL (w64 (l2 + l4)), zJ, zI (w32 (l4 + 1))] [] H (zQL K)) ∧ (l4 ≤ 1 → (¬ l1 = 3 → zgo w (d + 1) 174 5 [zI l0, zI l1, zL l2, zJ, zI (w32 (l4 + 1))] [] H (zQL K)) ∧ (l1 = 3 → zclI w d 173 [zI l4] H (fun x9 H8 => (x9 = 0 → zgo w (d + 1) 174 5 [zI l0, zI l1, zL l2, zJ, zI (w32 (l4 + 1))] [] H8 (zQL K)) ∧ (¬ x9 = 0 → zgo w (d + 1) 174 5 [zI l0, zI l1, zL (w64 (l2 + l4)), zJ, zI (w32 (l4 + 1))] [] H8 (zQL K))))))) :
    zgo w (d + 1) 174 40 [zI l0, zI l1, zL l2, zJ, zI l4] [] H (zQL K) := by
  refine g_il zp174 rfl rfl rfl ?_
  refine g_ic zp174 rfl rfl ?_
  refine g_icmp zp174 rfl rfl zc1 (fun c1 => ?_) (fun c1 => ?_)
  · replace h := h.1 c1
    refine g_il zp174 rfl rfl rfl ?_
    refine g_ic zp174 rfl rfl ?_
    refine g_icmp zp174 rfl rfl zc1 (fun c2 => ?_) (fun c2 => ?_)
    · replace h := h.1 c2
      refine g_inc (ls' := [zI l0, zI l1, zL l2, zJ, zI (w32 (l4 + 1))]) zp174 rfl rfl rfl rfl ?_
      refine g_goto zp174 rfl ?_
      exact g_weak (ls' := [zI l0, zI l1, zL l2, zJ, zI (w32 (l4 + 1))]) ⟨Or.inr rfl, Or.inr rfl, Or.inr rfl, Or.inr rfl, Or.inr rfl, trivial⟩ h
    · replace h := h.2 c2
      refine g_il zp174 rfl rfl rfl ?_
      refine g_callI (as := [zI l4]) (rest := []) zp174 rfl rfl (Nat.succ_pos _) rfl rfl (Nat.le_of_ble_eq_true rfl) (Nat.le_of_ble_eq_true rfl) rfl rfl h (fun x4 H3 h => ?_)
      refine g_if zp174 rfl rfl zc0 (fun c5 => ?_) (fun c5 => ?_)
      · replace h := h.1 c5
        refine g_inc (ls' := [zI l0, zI l1, zL l2, zJ, zI (w32 (l4 + 1))]) zp174 rfl rfl rfl rfl ?_
        refine g_goto zp174 rfl ?_
        exact g_weak (ls' := [zI l0, zI l1, zL l2, zJ, zI (w32 (l4 + 1))]) ⟨Or.inr rfl, Or.inr rfl, Or.inr rfl, Or.inr rfl, Or.inr rfl, trivial⟩ h
      · replace h := h.2 c5
        refine g_ll zp174 rfl rfl rfl ?_
        refine g_il zp174 rfl rfl rfl ?_
        refine g_i2l zp174 rfl rfl ?_
        refine g_lar (r := w64 (l2 + l4)) zp174 rfl rfl rfl ?_
        refine g_ls (ls' := [zI l0, zI l1, zL (w64 (l2 + l4)), zJ, zI l4]) zp174 rfl rfl (Nat.le_of_ble_eq_true rfl) rfl ?_
        refine g_inc (ls' := [zI l0, zI l1, zL (w64 (l2 + l4)), zJ, zI (w32 (l4 + 1))]) zp174 rfl rfl rfl rfl ?_
        refine g_goto zp174 rfl ?_
        exact g_weak (ls' := [zI l0, zI l1, zL (w64 (l2 + l4)), zJ, zI (w32 (l4 + 1))]) ⟨Or.inr rfl, Or.inr rfl, Or.inr rfl, Or.inr rfl, Or.inr rfl, trivial⟩ h
  · replace h := h.2 c1
    refine g_il zp174 rfl rfl rfl ?_
    refine g_ic zp174 rfl rfl ?_
    refine g_icmp zp174 rfl rfl zc4 (fun c6 => ?_) (fun c6 => ?_)
    · replace h := h.1 c6
      refine g_ll zp174 rfl rfl rfl ?_
      refine g_il zp174 rfl rfl rfl ?_
      refine g_i2l zp174 rfl rfl ?_
      refine g_lar (r := w64 (l2 + l4)) zp174 rfl rfl rfl ?_
      refine g_ls (ls' := [zI l0, zI l1, zL (w64 (l2 + l4)), zJ, zI l4]) zp174 rfl rfl (Nat.le_of_ble_eq_true rfl) rfl ?_
      refine g_inc (ls' := [zI l0, zI l1, zL (w64 (l2 + l4)), zJ, zI (w32 (l4 + 1))]) zp174 rfl rfl rfl rfl ?_
      refine g_goto zp174 rfl ?_
      exact g_weak (ls' := [zI l0, zI l1, zL (w64 (l2 + l4)), zJ, zI (w32 (l4 + 1))]) ⟨Or.inr rfl, Or.inr rfl, Or.inr rfl, Or.inr rfl, Or.inr rfl, trivial⟩ h
    · replace h := h.2 c6
      refine g_il zp174 rfl rfl rfl ?_
      refine g_ic zp174 rfl rfl ?_
      refine g_icmp zp174 rfl rfl zc1 (fun c7 => ?_) (fun c7 => ?_)
      · replace h := h.1 c7
        refine g_inc (ls' := [zI l0, zI l1, zL l2, zJ, zI (w32 (l4 + 1))]) zp174 rfl rfl rfl rfl ?_
        refine g_goto zp174 rfl ?_
        exact g_weak (ls' := [zI l0, zI l1, zL l2, zJ, zI (w32 (l4 + 1))]) ⟨Or.inr rfl, Or.inr rfl, Or.inr rfl, Or.inr rfl, Or.inr rfl, trivial⟩ h
      · replace h := h.2 c7
        refine g_il zp174 rfl rfl rfl ?_
        refine g_callI (as := [zI l4]) (rest := []) zp174 rfl rfl (Nat.succ_pos _) rfl rfl (Nat.le_of_ble_eq_true rfl) (Nat.le_of_ble_eq_true rfl) rfl rfl h (fun x9 H8 h => ?_)
        refine g_if zp174 rfl rfl zc0 (fun c10 => ?_) (fun c10 => ?_)
        · replace h := h.1 c10
          refine g_inc (ls' := [zI l0, zI l1, zL l2, zJ, zI (w32 (l4 + 1))]) zp174 rfl rfl rfl rfl ?_
          refine g_goto zp174 rfl ?_
          exact g_weak (ls' := [zI l0, zI l1, zL l2, zJ, zI (w32 (l4 + 1))]) ⟨Or.inr rfl, Or.inr rfl, Or.inr rfl, Or.inr rfl, Or.inr rfl, trivial⟩ h
        · replace h := h.2 c10
          refine g_ll zp174 rfl rfl rfl ?_
          refine g_il zp174 rfl rfl rfl ?_
          refine g_i2l zp174 rfl rfl ?_
          refine g_lar (r := w64 (l2 + l4)) zp174 rfl rfl rfl ?_
          refine g_ls (ls' := [zI l0, zI l1, zL (w64 (l2 + l4)), zJ, zI l4]) zp174 rfl rfl (Nat.le_of_ble_eq_true rfl) rfl ?_
          refine g_inc (ls' := [zI l0, zI l1, zL (w64 (l2 + l4)), zJ, zI (w32 (l4 + 1))]) zp174 rfl rfl rfl rfl ?_
          refine g_goto zp174 rfl ?_
          exact g_weak (ls' := [zI l0, zI l1, zL (w64 (l2 + l4)), zJ, zI (w32 (l4 + 1))]) ⟨Or.inr rfl, Or.inr rfl, Or.inr rfl, Or.inr rfl, Or.inr rfl, trivial⟩ h
theorem zp175 : zprog.getD 175 [] = zk175 := rfl
theorem x175_0 {w : zWt} {d : Nat} {H : zHt} {K : Int → zHt → Prop} {l1 : Int}
    (h : zclI w d 41 [zR 32, zI 3] H (fun x2 H1 => zclL w d 174 [zI l1, zI x2] H1 (fun x4 H3 => zclL w d 51 [zR 32, zI l1] H3 (fun x6 H5 => (¬ x6 = x4 → K 0 H5) ∧ (x6 = x4 → zclI w d 61 [zR 32, zI l1] H5 (fun x9 H8 => (l1 ≤ x4 → (¬ x4 = l1 → (x9 = 2 → zclI w d 42 [zR 32, zI l1, zI (-1), zI 0] H8 (fun x14 H13 => zgo w (d + 1) 175 76 [zR 32, zI l1, zJ, zJ, zJ, zI x14, zL 1, zJ, zI 1, zI 1, zI 0, zJ, zJ, zJ, zJ] [] H13 (zQI K))) ∧ (¬ x9 = 2 → K 0 H8)) ∧ (x4 = l1 → (x9 = 1 → zclI w d 42 [zR 32, zI l1, zI (-1), zI 0] H8 (fun x17 H16 => zgo w (d + 1) 175 76 [zR 32, zI l1, zJ, zJ, zJ, zI x17, zL 1, zJ, zI 1, zI 1, zI 0, zJ, zJ, zJ, zJ] [] H16 (zQI K))) ∧ (¬ x9 = 1 → K 0 H8))) ∧ (x4 < l1 → (x9 = 0 → zclI w d 42 [zR 32, zI l1, zI (-1), zI 0] H8 (fun x20 H19 => zgo w (d + 1) 175 76 [zR 32, zI l1, zJ, zJ, zJ, zI x20, zL 1, zJ, zI 1, zI 1, zI 0, zJ, zJ, zJ, zJ] [] H19 (zQI K))) ∧ (¬ x9 = 0 → K 0 H8)))))))) :
    zclI w (d + 1) 175 [zR 32, zI l1] H K := by
  show zgo w (d + 1) 175 0 [zR 32, zI l1, zJ, zJ, zJ, zJ, zJ, zJ, zJ, zJ, zJ, zJ, zJ, zJ, zJ] [] H (zQI K)
  refine g_al zp175 rfl rfl rfl (by decide) ?_
  refine g_ic zp175 rfl rfl ?_
  refine g_callI (as := [zR 32, zI 3]) (rest := []) zp175 rfl rfl (Nat.succ_pos _) rfl rfl (Nat.le_of_ble_eq_true rfl) (Nat.le_of_ble_eq_true rfl) rfl rfl h (fun x2 H1 h => ?_)
  refine g_is (ls' := [zR 32, zI l1, zI x2, zJ, zJ, zJ, zJ, zJ, zJ, zJ, zJ, zJ, zJ, zJ, zJ]) zp175 rfl rfl (Nat.le_of_ble_eq_true rfl) rfl ?_
  refine g_il zp175 rfl rfl rfl ?_
  refine g_il zp175 rfl rfl rfl ?_
  refine g_callL (as := [zI l1, zI x2]) (rest := []) zp175 rfl rfl (Nat.succ_pos _) rfl rfl (Nat.le_of_ble_eq_true rfl) (Nat.le_of_ble_eq_true rfl) rfl rfl h (fun x4 H3 h => ?_)
  refine g_ls (ls' := [zR 32, zI l1, zI x2, zL x4, zJ, zJ, zJ, zJ, zJ, zJ, zJ, zJ, zJ, zJ, zJ]) zp175 rfl rfl (Nat.le_of_ble_eq_true rfl) rfl ?_
  refine g_al zp175 rfl rfl rfl (by decide) ?_
  refine g_il zp175 rfl rfl rfl ?_
  refine g_callL (as := [zR 32, zI l1]) (rest := []) zp175 rfl rfl (Nat.succ_pos _) rfl rfl (Nat.le_of_ble_eq_true rfl) (Nat.le_of_ble_eq_true rfl) rfl rfl h (fun x6 H5 h => ?_)
  refine g_ll zp175 rfl rfl rfl ?_
  refine g_lcmp zp175 rfl rfl rfl rfl zc1 (fun c7 => ?_) (fun c7 => ?_)
  · replace h := h.1 c7
    refine g_ic zp175 rfl rfl ?_
    exact g_ret zp175 rfl (zret_b (by decide)) ⟨_, rfl, h⟩
  · replace h := h.2 c7
    refine g_al zp175 rfl rfl rfl (by decide) ?_
    refine g_il zp175 rfl rfl rfl ?_
    refine g_callI (as := [zR 32, zI l1]) (rest := []) zp175 rfl rfl (Nat.succ_pos _) rfl rfl (Nat.le_of_ble_eq_true rfl) (Nat.le_of_ble_eq_true rfl) rfl rfl h (fun x9 H8 h => ?_)
    refine g_ll zp175 rfl rfl rfl ?_
    refine g_il zp175 rfl rfl rfl ?_
    refine g_i2l zp175 rfl rfl ?_
    refine g_lcmp zp175 rfl rfl rfl rfl zc3 (fun c10 => ?_) (fun c10 => ?_)
    · replace h := h.1 c10
      refine g_ll zp175 rfl rfl rfl ?_
      refine g_il zp175 rfl rfl rfl ?_
      refine g_i2l zp175 rfl rfl ?_
      refine g_lcmp zp175 rfl rfl rfl rfl zc1 (fun c11 => ?_) (fun c11 => ?_)
      · replace h := h.1 c11
        refine g_ic zp175 rfl rfl ?_
        refine g_icmp zp175 rfl rfl zc0 (fun c12 => ?_) (fun c12 => ?_)
        · replace h := h.1 c12
          refine g_al zp175 rfl rfl rfl (by decide) ?_
          refine g_il zp175 rfl rfl rfl ?_
          refine g_ic zp175 rfl rfl ?_
          refine g_ic zp175 rfl rfl ?_
          refine g_callI (as := [zR 32, zI l1, zI (-1), zI 0]) (rest := []) zp175 rfl rfl (Nat.succ_pos _) rfl rfl (Nat.le_of_ble_eq_true rfl) (Nat.le_of_ble_eq_true rfl) rfl rfl h (fun x14 H13 h => ?_)
          refine g_is (ls' := [zR 32, zI l1, zI x2, zL x4, zJ, zI x14, zJ, zJ, zJ, zJ, zJ, zJ, zJ, zJ, zJ]) zp175 rfl rfl (Nat.le_of_ble_eq_true rfl) rfl ?_
          refine g_lc zp175 rfl rfl ?_
          refine g_ls (ls' := [zR 32, zI l1, zI x2, zL x4, zJ, zI x14, zL 1, zJ, zJ, zJ, zJ, zJ, zJ, zJ, zJ]) zp175 rfl rfl (Nat.le_of_ble_eq_true rfl) rfl ?_
          refine g_ic zp175 rfl rfl ?_
          refine g_is (ls' := [zR 32, zI l1, zI x2, zL x4, zJ, zI x14, zL 1, zJ, zI 1, zJ, zJ, zJ, zJ, zJ, zJ]) zp175 rfl rfl (Nat.le_of_ble_eq_true rfl) rfl ?_
          refine g_ic zp175 rfl rfl ?_
          refine g_is (ls' := [zR 32, zI l1, zI x2, zL x4, zJ, zI x14, zL 1, zJ, zI 1, zI 1, zJ, zJ, zJ, zJ, zJ]) zp175 rfl rfl (Nat.le_of_ble_eq_true rfl) rfl ?_
          refine g_ic zp175 rfl rfl ?_
          refine g_is (ls' := [zR 32, zI l1, zI x2, zL x4, zJ, zI x14, zL 1, zJ, zI 1, zI 1, zI 0, zJ, zJ, zJ, zJ]) zp175 rfl rfl (Nat.le_of_ble_eq_true rfl) rfl ?_
          exact g_weak (ls' := [zR 32, zI l1, zJ, zJ, zJ, zI x14, zL 1, zJ, zI 1, zI 1, zI 0, zJ, zJ, zJ, zJ]) ⟨Or.inr rfl, Or.inr rfl, Or.inl rfl, Or.inl rfl, Or.inr rfl, Or.inr rfl, Or.inr rfl, Or.inr rfl, Or.inr rfl, Or.inr rfl, Or.inr rfl, Or.inr rfl, Or.inr rfl, Or.inr rfl, Or.inr rfl, trivial⟩ h
        · replace h := h.2 c12
          refine g_ic zp175 rfl rfl ?_
          exact g_ret zp175 rfl (zret_b (by decide)) ⟨_, rfl, h⟩
      · replace h := h.2 c11
        refine g_ic zp175 rfl rfl ?_
        refine g_goto zp175 rfl ?_
        refine g_icmp zp175 rfl rfl zc0 (fun c15 => ?_) (fun c15 => ?_)
        · replace h := h.1 c15
          refine g_al zp175 rfl rfl rfl (by decide) ?_
          refine g_il zp175 rfl rfl rfl ?_
          refine g_ic zp175 rfl rfl ?_
          refine g_ic zp175 rfl rfl ?_
          refine g_callI (as := [zR 32, zI l1, zI (-1), zI 0]) (rest := []) zp175 rfl rfl (Nat.succ_pos _) rfl rfl (Nat.le_of_ble_eq_true rfl) (Nat.le_of_ble_eq_true rfl) rfl rfl h (fun x17 H16 h => ?_)
          refine g_is (ls' := [zR 32, zI l1, zI x2, zL x4, zJ, zI x17, zJ, zJ, zJ, zJ, zJ, zJ, zJ, zJ, zJ]) zp175 rfl rfl (Nat.le_of_ble_eq_true rfl) rfl ?_
          refine g_lc zp175 rfl rfl ?_
          refine g_ls (ls' := [zR 32, zI l1, zI x2, zL x4, zJ, zI x17, zL 1, zJ, zJ, zJ, zJ, zJ, zJ, zJ, zJ]) zp175 rfl rfl (Nat.le_of_ble_eq_true rfl) rfl ?_
          refine g_ic zp175 rfl rfl ?_
          refine g_is (ls' := [zR 32, zI l1, zI x2, zL x4, zJ, zI x17, zL 1, zJ, zI 1, zJ, zJ, zJ, zJ, zJ, zJ]) zp175 rfl rfl (Nat.le_of_ble_eq_true rfl) rfl ?_
          refine g_ic zp175 rfl rfl ?_
          refine g_is (ls' := [zR 32, zI l1, zI x2, zL x4, zJ, zI x17, zL 1, zJ, zI 1, zI 1, zJ, zJ, zJ, zJ, zJ]) zp175 rfl rfl (Nat.le_of_ble_eq_true rfl) rfl ?_
          refine g_ic zp175 rfl rfl ?_
          refine g_is (ls' := [zR 32, zI l1, zI x2, zL x4, zJ, zI x17, zL 1, zJ, zI 1, zI 1, zI 0, zJ, zJ, zJ, zJ]) zp175 rfl rfl (Nat.le_of_ble_eq_true rfl) rfl ?_
          exact g_weak (ls' := [zR 32, zI l1, zJ, zJ, zJ, zI x17, zL 1, zJ, zI 1, zI 1, zI 0, zJ, zJ, zJ, zJ]) ⟨Or.inr rfl, Or.inr rfl, Or.inl rfl, Or.inl rfl, Or.inr rfl, Or.inr rfl, Or.inr rfl, Or.inr rfl, Or.inr rfl, Or.inr rfl, Or.inr rfl, Or.inr rfl, Or.inr rfl, Or.inr rfl, Or.inr rfl, trivial⟩ h
        · replace h := h.2 c15
          refine g_ic zp175 rfl rfl ?_
          exact g_ret zp175 rfl (zret_b (by decide)) ⟨_, rfl, h⟩
    · replace h := h.2 c10
      refine g_ic zp175 rfl rfl ?_
      refine g_goto zp175 rfl ?_
      refine g_icmp zp175 rfl rfl zc0 (fun c18 => ?_) (fun c18 => ?_)
      · replace h := h.1 c18
        refine g_al zp175 rfl rfl rfl (by decide) ?_
        refine g_il zp175 rfl rfl rfl ?_
        refine g_ic zp175 rfl rfl ?_
        refine g_ic zp175 rfl rfl ?_
        refine g_callI (as := [zR 32, zI l1, zI (-1), zI 0]) (rest := []) zp175 rfl rfl (Nat.succ_pos _) rfl rfl (Nat.le_of_ble_eq_true rfl) (Nat.le_of_ble_eq_true rfl) rfl rfl h (fun x20 H19 h => ?_)
        refine g_is (ls' := [zR 32, zI l1, zI x2, zL x4, zJ, zI x20, zJ, zJ, zJ, zJ, zJ, zJ, zJ, zJ, zJ]) zp175 rfl rfl (Nat.le_of_ble_eq_true rfl) rfl ?_
        refine g_lc zp175 rfl rfl ?_
        refine g_ls (ls' := [zR 32, zI l1, zI x2, zL x4, zJ, zI x20, zL 1, zJ, zJ, zJ, zJ, zJ, zJ, zJ, zJ]) zp175 rfl rfl (Nat.le_of_ble_eq_true rfl) rfl ?_
        refine g_ic zp175 rfl rfl ?_
        refine g_is (ls' := [zR 32, zI l1, zI x2, zL x4, zJ, zI x20, zL 1, zJ, zI 1, zJ, zJ, zJ, zJ, zJ, zJ]) zp175 rfl rfl (Nat.le_of_ble_eq_true rfl) rfl ?_
        refine g_ic zp175 rfl rfl ?_
        refine g_is (ls' := [zR 32, zI l1, zI x2, zL x4, zJ, zI x20, zL 1, zJ, zI 1, zI 1, zJ, zJ, zJ, zJ, zJ]) zp175 rfl rfl (Nat.le_of_ble_eq_true rfl) rfl ?_
        refine g_ic zp175 rfl rfl ?_
        refine g_is (ls' := [zR 32, zI l1, zI x2, zL x4, zJ, zI x20, zL 1, zJ, zI 1, zI 1, zI 0, zJ, zJ, zJ, zJ]) zp175 rfl rfl (Nat.le_of_ble_eq_true rfl) rfl ?_
        exact g_weak (ls' := [zR 32, zI l1, zJ, zJ, zJ, zI x20, zL 1, zJ, zI 1, zI 1, zI 0, zJ, zJ, zJ, zJ]) ⟨Or.inr rfl, Or.inr rfl, Or.inl rfl, Or.inl rfl, Or.inr rfl, Or.inr rfl, Or.inr rfl, Or.inr rfl, Or.inr rfl, Or.inr rfl, Or.inr rfl, Or.inr rfl, Or.inr rfl, Or.inr rfl, Or.inr rfl, trivial⟩ h
      · replace h := h.2 c18
        refine g_ic zp175 rfl rfl ?_
        exact g_ret zp175 rfl (zret_b (by decide)) ⟨_, rfl, h⟩
theorem x175_76 {w : zWt} {d : Nat} {H : zHt} {K : Int → zHt → Prop} {l1 : Int} {l5 : Int} {l6 : Int} {l8 : Int} {l9 : Int} {l10 : Int}
    (h : (l5 ≤ l10 → (¬ l6 = l1 → K 0 H) ∧ (l6 = l1 → zclI w d 42 [zR 32, zI l1, zI l5, zI 0] H (fun x4 H3 => (¬ x4 = (-1) → K 0 H3) ∧ (x4 = (-1) → zclI w d 9 [zR 32] H3 (fun x7 H6 => (¬ x7 = 5 → K 0 H6) ∧ (x7 = 5 → zclI w d 70 [zR 32, zI l1, zI (-1)] H6 (fun x10 H9 => (x10 = l8 → zgo w (d + 1) 175 234 [zR 32, zI l1, zJ, zJ, zJ, zJ, zJ, zJ, zI l8, zJ, zL 0, zJ, zI 0, zI 0, zJ] [] H9 (zQI K)) ∧ (¬ x10 = l8 → K 0 H9)))))))) ∧ (l10 < l5 → zclI w d 42 [zR 32, zI l1, zI l10, zI 0] H (fun x13 H12 => zclI w d 42 [zR 32, zI l1, zI l10, zI 1] H12 (fun x15 H14 => (x13 ≤ l9 → K 0 H14) ∧ (l9 < x13 → (x15 < 1 → K 0 H14) ∧ (1 ≤ x15 → zclI w d 42 [zR 32, zI x13, zI (-1), zI 0] H14 (fun x19 H18 => (¬ x19 = 1 → K 0 H18) ∧ (x19 = 1 → zclI w d 70 [zR 32, zI x13, zI (-1)] H18 (fun x22 H21 => (x22 = 2 → zgo w (d + 1) 175 144 [zR 32, zI l1, zJ, zJ, zJ, zI l5, zL l6, zJ, zI l8, zJ, zI l10, zI x13, zI x15, zI 0, zJ] [] H21 (zQI K)) ∧ (¬ x22 = 2 → K 0 H21)))))))))) :
    zgo w (d + 1) 175 76 [zR 32, zI l1, zJ, zJ, zJ, zI l5, zL l6, zJ, zI l8, zI l9, zI l10, zJ, zJ, zJ, zJ] [] H (zQI K) := by
  refine g_il zp175 rfl rfl rfl ?_
  refine g_il zp175 rfl rfl rfl ?_
  refine g_icmp zp175 rfl rfl zc3 (fun c1 => ?_) (fun c1 => ?_)
  · replace h := h.1 c1
    refine g_ll zp175 rfl rfl rfl ?_
    refine g_il zp175 rfl rfl rfl ?_
    refine g_i2l zp175 rfl rfl ?_
    refine g_lcmp zp175 rfl rfl rfl rfl zc1 (fun c2 => ?_) (fun c2 => ?_)
    · replace h := h.1 c2
      refine g_ic zp175 rfl rfl ?_
      exact g_ret zp175 rfl (zret_b (by decide)) ⟨_, rfl, h⟩
    · replace h := h.2 c2
      refine g_al zp175 rfl rfl rfl (by decide) ?_
      refine g_il zp175 rfl rfl rfl ?_
      refine g_il zp175 rfl rfl rfl ?_
      refine g_ic zp175 rfl rfl ?_
      refine g_callI (as := [zR 32, zI l1, zI l5, zI 0]) (rest := []) zp175 rfl rfl (Nat.succ_pos _) rfl rfl (Nat.le_of_ble_eq_true rfl) (Nat.le_of_ble_eq_true rfl) rfl rfl h (fun x4 H3 h => ?_)
      refine g_ic zp175 rfl rfl ?_
      refine g_icmp zp175 rfl rfl zc1 (fun c5 => ?_) (fun c5 => ?_)
      · replace h := h.1 c5
        refine g_ic zp175 rfl rfl ?_
        exact g_ret zp175 rfl (zret_b (by decide)) ⟨_, rfl, h⟩
      · replace h := h.2 c5
        refine g_al zp175 rfl rfl rfl (by decide) ?_
        refine g_callI (as := [zR 32]) (rest := []) zp175 rfl rfl (Nat.succ_pos _) rfl rfl (Nat.le_of_ble_eq_true rfl) (Nat.le_of_ble_eq_true rfl) rfl rfl h (fun x7 H6 h => ?_)
        refine g_ic zp175 rfl rfl ?_
        refine g_icmp zp175 rfl rfl zc1 (fun c8 => ?_) (fun c8 => ?_)
        · replace h := h.1 c8
          refine g_ic zp175 rfl rfl ?_
          exact g_ret zp175 rfl (zret_b (by decide)) ⟨_, rfl, h⟩
        · replace h := h.2 c8
          refine g_al zp175 rfl rfl rfl (by decide) ?_
          refine g_il zp175 rfl rfl rfl ?_
          refine g_ic zp175 rfl rfl ?_
          refine g_callI (as := [zR 32, zI l1, zI (-1)]) (rest := []) zp175 rfl rfl (Nat.succ_pos _) rfl rfl (Nat.le_of_ble_eq_true rfl) (Nat.le_of_ble_eq_true rfl) rfl rfl h (fun x10 H9 h => ?_)
          refine g_il zp175 rfl rfl rfl ?_
          refine g_icmp zp175 rfl rfl zc0 (fun c11 => ?_) (fun c11 => ?_)
          · replace h := h.1 c11
            refine g_lc zp175 rfl rfl ?_
            refine g_ls (ls' := [zR 32, zI l1, zJ, zJ, zJ, zI l5, zL l6, zJ, zI l8, zI l9, zL 0, zJ, zJ, zJ, zJ]) zp175 rfl rfl (Nat.le_of_ble_eq_true rfl) rfl ?_
            refine g_ic zp175 rfl rfl ?_
            refine g_is (ls' := [zR 32, zI l1, zJ, zJ, zJ, zI l5, zL l6, zJ, zI l8, zI l9, zL 0, zJ, zI 0, zJ, zJ]) zp175 rfl rfl (Nat.le_of_ble_eq_true rfl) rfl ?_
            refine g_ic zp175 rfl rfl ?_
            refine g_is (ls' := [zR 32, zI l1, zJ, zJ, zJ, zI l5, zL l6, zJ, zI l8, zI l9, zL 0, zJ, zI 0, zI 0, zJ]) zp175 rfl rfl (Nat.le_of_ble_eq_true rfl) rfl ?_
            exact g_weak (ls' := [zR 32, zI l1, zJ, zJ, zJ, zJ, zJ, zJ, zI l8, zJ, zL 0, zJ, zI 0, zI 0, zJ]) ⟨Or.inr rfl, Or.inr rfl, Or.inr rfl, Or.inr rfl, Or.inr rfl, Or.inl rfl, Or.inl rfl, Or.inr rfl, Or.inr rfl, Or.inl rfl, Or.inr rfl, Or.inr rfl, Or.inr rfl, Or.inr rfl, Or.inr rfl, trivial⟩ h
          · replace h := h.2 c11
            refine g_ic zp175 rfl rfl ?_
            exact g_ret zp175 rfl (zret_b (by decide)) ⟨_, rfl, h⟩
  · replace h := h.2 c1
    refine g_al zp175 rfl rfl rfl (by decide) ?_
    refine g_il zp175 rfl rfl rfl ?_
    refine g_il zp175 rfl rfl rfl ?_
    refine g_ic zp175 rfl rfl ?_
    refine g_callI (as := [zR 32, zI l1, zI l10, zI 0]) (rest := []) zp175 rfl rfl (Nat.succ_pos _) rfl rfl (Nat.le_of_ble_eq_true rfl) (Nat.le_of_ble_eq_true rfl) rfl rfl h (fun x13 H12 h => ?_)
    refine g_is (ls' := [zR 32, zI l1, zJ, zJ, zJ, zI l5, zL l6, zJ, zI l8, zI l9, zI l10, zI x13, zJ, zJ, zJ]) zp175 rfl rfl (Nat.le_of_ble_eq_true rfl) rfl ?_
    refine g_al zp175 rfl rfl rfl (by decide) ?_
    refine g_il zp175 rfl rfl rfl ?_
    refine g_il zp175 rfl rfl rfl ?_
    refine g_ic zp175 rfl rfl ?_
    refine g_callI (as := [zR 32, zI l1, zI l10, zI 1]) (rest := []) zp175 rfl rfl (Nat.succ_pos _) rfl rfl (Nat.le_of_ble_eq_true rfl) (Nat.le_of_ble_eq_true rfl) rfl rfl h (fun x15 H14 h => ?_)
    refine g_is (ls' := [zR 32, zI l1, zJ, zJ, zJ, zI l5, zL l6, zJ, zI l8, zI l9, zI l10, zI x13, zI x15, zJ, zJ]) zp175 rfl rfl (Nat.le_of_ble_eq_true rfl) rfl ?_
    refine g_il zp175 rfl rfl rfl ?_
    refine g_il zp175 rfl rfl rfl ?_
    refine g_icmp zp175 rfl rfl zc5 (fun c16 => ?_) (fun c16 => ?_)
    · replace h := h.1 c16
      refine g_ic zp175 rfl rfl ?_
      exact g_ret zp175 rfl (zret_b (by decide)) ⟨_, rfl, h⟩
    · replace h := h.2 c16
      refine g_il zp175 rfl rfl rfl ?_
      refine g_ic zp175 rfl rfl ?_
      refine g_icmp zp175 rfl rfl zc2 (fun c17 => ?_) (fun c17 => ?_)
      · replace h := h.1 c17
        refine g_ic zp175 rfl rfl ?_
        exact g_ret zp175 rfl (zret_b (by decide)) ⟨_, rfl, h⟩
      · replace h := h.2 c17
        refine g_al zp175 rfl rfl rfl (by decide) ?_
        refine g_il zp175 rfl rfl rfl ?_
        refine g_ic zp175 rfl rfl ?_
        refine g_ic zp175 rfl rfl ?_
        refine g_callI (as := [zR 32, zI x13, zI (-1), zI 0]) (rest := []) zp175 rfl rfl (Nat.succ_pos _) rfl rfl (Nat.le_of_ble_eq_true rfl) (Nat.le_of_ble_eq_true rfl) rfl rfl h (fun x19 H18 h => ?_)
        refine g_ic zp175 rfl rfl ?_
        refine g_icmp zp175 rfl rfl zc1 (fun c20 => ?_) (fun c20 => ?_)
        · replace h := h.1 c20
          refine g_ic zp175 rfl rfl ?_
          exact g_ret zp175 rfl (zret_b (by decide)) ⟨_, rfl, h⟩
        · replace h := h.2 c20
          refine g_al zp175 rfl rfl rfl (by decide) ?_
          refine g_il zp175 rfl rfl rfl ?_
          refine g_ic zp175 rfl rfl ?_
          refine g_callI (as := [zR 32, zI x13, zI (-1)]) (rest := []) zp175 rfl rfl (Nat.succ_pos _) rfl rfl (Nat.le_of_ble_eq_true rfl) (Nat.le_of_ble_eq_true rfl) rfl rfl h (fun x22 H21 h => ?_)
          refine g_ic zp175 rfl rfl ?_
          refine g_icmp zp175 rfl rfl zc0 (fun c23 => ?_) (fun c23 => ?_)
          · replace h := h.1 c23
            refine g_ic zp175 rfl rfl ?_
            refine g_is (ls' := [zR 32, zI l1, zJ, zJ, zJ, zI l5, zL l6, zJ, zI l8, zI l9, zI l10, zI x13, zI x15, zI 0, zJ]) zp175 rfl rfl (Nat.le_of_ble_eq_true rfl) rfl ?_
            exact g_weak (ls' := [zR 32, zI l1, zJ, zJ, zJ, zI l5, zL l6, zJ, zI l8, zJ, zI l10, zI x13, zI x15, zI 0, zJ]) ⟨Or.inr rfl, Or.inr rfl, Or.inr rfl, Or.inr rfl, Or.inr rfl, Or.inr rfl, Or.inr rfl, Or.inr rfl, Or.inr rfl, Or.inl rfl, Or.inr rfl, Or.inr rfl, Or.inr rfl, Or.inr rfl, Or.inr rfl, trivial⟩ h
          · replace h := h.2 c23
            refine g_ic zp175 rfl rfl ?_
            exact g_ret zp175 rfl (zret_b (by decide)) ⟨_, rfl, h⟩
theorem x175_144 {w : zWt} {d : Nat} {H : zHt} {K : Int → zHt → Prop} {l1 : Int} {l5 : Int} {l6 : Int} {l8 : Int} {l10 : Int} {l11 : Int} {l12 : Int} {l13 : Int}
    (h : (l12 ≤ l13 → zgo w (d + 1) 175 76 [zR 32, zI l1, zJ, zJ, zJ, zI l5, zL l6, zJ, zI (w32 (l8 * (w32 (l12 + 1)))), zI l11, zI (w32 (l10 + 1)), zJ, zJ, zJ, zJ] [] H (zQI K)) ∧ (l13 < l12 → zgo w (d + 1) 175 144 [zR 32, zI l1, zJ, zJ, zJ, zI l5, zL (w64 (l6 * l11)), zJ, zI l8, zJ, zI l10, zI l11, zI l12, zI (w32 (l13 + 1)), zJ] [] H (zQI K))) :
    zgo w (d + 1) 175 144 [zR 32, zI l1, zJ, zJ, zJ, zI l5, zL l6, zJ, zI l8, zJ, zI l10, zI l11, zI l12, zI l13, zJ] [] H (zQI K) := by
  refine g_il zp175 rfl rfl rfl ?_
  refine g_il zp175 rfl rfl rfl ?_
  refine g_icmp zp175 rfl rfl zc3 (fun c1 => ?_) (fun c1 => ?_)
  · replace h := h.1 c1
    refine g_il zp175 rfl rfl rfl ?_
    refine g_il zp175 rfl rfl rfl ?_
    refine g_ic zp175 rfl rfl ?_
    refine g_ar (r := w32 (l12 + 1)) zp175 rfl rfl rfl ?_
    refine g_ar (r := w32 (l8 * (w32 (l12 + 1)))) zp175 rfl rfl rfl ?_
    refine g_is (ls' := [zR 32, zI l1, zJ, zJ, zJ, zI l5, zL l6, zJ, zI (w32 (l8 * (w32 (l12 + 1)))), zJ, zI l10, zI l11, zI l12, zI l13, zJ]) zp175 rfl rfl (Nat.le_of_ble_eq_true rfl) rfl ?_
    refine g_il zp175 rfl rfl rfl ?_
    refine g_is (ls' := [zR 32, zI l1, zJ, zJ, zJ, zI l5, zL l6, zJ, zI (w32 (l8 * (w32 (l12 + 1)))), zI l11, zI l10, zI l11, zI l12, zI l13, zJ]) zp175 rfl rfl (Nat.le_of_ble_eq_true rfl) rfl ?_
    refine g_inc (ls' := [zR 32, zI l1, zJ, zJ, zJ, zI l5, zL l6, zJ, zI (w32 (l8 * (w32 (l12 + 1)))), zI l11, zI (w32 (l10 + 1)), zI l11, zI l12, zI l13, zJ]) zp175 rfl rfl rfl rfl ?_
    refine g_goto zp175 rfl ?_
    exact g_weak (ls' := [zR 32, zI l1, zJ, zJ, zJ, zI l5, zL l6, zJ, zI (w32 (l8 * (w32 (l12 + 1)))), zI l11, zI (w32 (l10 + 1)), zJ, zJ, zJ, zJ]) ⟨Or.inr rfl, Or.inr rfl, Or.inr rfl, Or.inr rfl, Or.inr rfl, Or.inr rfl, Or.inr rfl, Or.inr rfl, Or.inr rfl, Or.inr rfl, Or.inr rfl, Or.inl rfl, Or.inl rfl, Or.inl rfl, Or.inr rfl, trivial⟩ h
  · replace h := h.2 c1
    refine g_ll zp175 rfl rfl rfl ?_
    refine g_il zp175 rfl rfl rfl ?_
    refine g_i2l zp175 rfl rfl ?_
    refine g_lar (r := w64 (l6 * l11)) zp175 rfl rfl rfl ?_
    refine g_ls (ls' := [zR 32, zI l1, zJ, zJ, zJ, zI l5, zL (w64 (l6 * l11)), zJ, zI l8, zJ, zI l10, zI l11, zI l12, zI l13, zJ]) zp175 rfl rfl (Nat.le_of_ble_eq_true rfl) rfl ?_
    refine g_inc (ls' := [zR 32, zI l1, zJ, zJ, zJ, zI l5, zL (w64 (l6 * l11)), zJ, zI l8, zJ, zI l10, zI l11, zI l12, zI (w32 (l13 + 1)), zJ]) zp175 rfl rfl rfl rfl ?_
    refine g_goto zp175 rfl ?_
    exact g_weak (ls' := [zR 32, zI l1, zJ, zJ, zJ, zI l5, zL (w64 (l6 * l11)), zJ, zI l8, zJ, zI l10, zI l11, zI l12, zI (w32 (l13 + 1)), zJ]) ⟨Or.inr rfl, Or.inr rfl, Or.inr rfl, Or.inr rfl, Or.inr rfl, Or.inr rfl, Or.inr rfl, Or.inr rfl, Or.inr rfl, Or.inr rfl, Or.inr rfl, Or.inr rfl, Or.inr rfl, Or.inr rfl, Or.inr rfl, trivial⟩ h
theorem x175_234 {w : zWt} {d : Nat} {H : zHt} {K : Int → zHt → Prop} {l1 : Int} {l8 : Int} {l10 : Int} {l12 : Int} {l13 : Int}
    (h : (l8 ≤ l13 → (¬ l12 = l1 → K 0 H) ∧ (l12 = l1 → zclL w d 76 [zR 32, zI l1, zI 0] H (fun x4 H3 => zclL w d 76 [zR 32, zI l1, zI 1] H3 (fun x6 H5 => (¬ (w64 (x4 * l1)) = (w64 (l10 * x6)) → K 0 H5) ∧ ((w64 (x4 * l1)) = (w64 (l10 * x6)) → zclL w d 94 [zR 32, zI l1, zI 0, zI 0] H5 (fun x9 H8 => zclL w d 94 [zR 32, zI l1, zI 0, zI 1] H8 (fun x11 H10 => ((w64 (x9 * l8)) = (w64 (l10 * x11)) → zclL w d 94 [zR 32, zI l1, zI 1, zI 0] H10 (fun x14 H13 => zclL w d 94 [zR 32, zI l1, zI 1, zI 1] H13 (fun x16 H15 => ((w64 (x14 * l10)) = (w64 ((w64 (l1 * l8)) * x16)) → (¬ (Int.tmod l1 2) = 1 → zclI w d 176 [zR 32, zI l1] H15 (fun x20 H19 => (x20 = 0 ∨ x20 = 1) ∧ K x20 H19)) ∧ ((Int.tmod l1 2) = 1 → zclI w d 63 [zR 32, zI l1, zI 0] H15 (fun x23 H22 => (¬ x23 = (-1) → K 0 H22) ∧ (x23 = (-1) → zclI w d 9 [zR 32] H22 (fun x26 H25 => (¬ x26 = 5 → K 0 H25) ∧ (x26 = 5 → K 1 H25)))))) ∧ (¬ (w64 (x14 * l10)) = (w64 ((w64 (l1 * l8)) * x16)) → K 0 H15)))) ∧ (¬ (w64 (x9 * l8)) = (w64 (l10 * x11)) → K 0 H10)))))))) ∧ (l13 < l8 → zclI w d 70 [zR 32, zI l1, zI l13] H (fun x29 H28 => (x29 ≤ l12 → K 0 H28) ∧ (l12 < x29 → (x29 ≠ 0) ∧ ((Int.tmod l1 x29) = 0 → zgo w (d + 1) 175 234 [zR 32, zI l1, zJ, zJ, zJ, zJ, zJ, zJ, zI l8, zJ, zL (w64 (l10 + x29)), zJ, zI x29, zI (w32 (l13 + 1)), zJ] [] H28 (zQI K)) ∧ (¬ (Int.tmod l1 x29) = 0 → K 0 H28))))) :
    zgo w (d + 1) 175 234 [zR 32, zI l1, zJ, zJ, zJ, zJ, zJ, zJ, zI l8, zJ, zL l10, zJ, zI l12, zI l13, zJ] [] H (zQI K) := by
  refine g_il zp175 rfl rfl rfl ?_
  refine g_il zp175 rfl rfl rfl ?_
  refine g_icmp zp175 rfl rfl zc3 (fun c1 => ?_) (fun c1 => ?_)
  · replace h := h.1 c1
    refine g_il zp175 rfl rfl rfl ?_
    refine g_il zp175 rfl rfl rfl ?_
    refine g_icmp zp175 rfl rfl zc1 (fun c2 => ?_) (fun c2 => ?_)
    · replace h := h.1 c2
      refine g_ic zp175 rfl rfl ?_
      exact g_ret zp175 rfl (zret_b (by decide)) ⟨_, rfl, h⟩
    · replace h := h.2 c2
      refine g_al zp175 rfl rfl rfl (by decide) ?_
      refine g_il zp175 rfl rfl rfl ?_
      refine g_ic zp175 rfl rfl ?_
      refine g_callL (as := [zR 32, zI l1, zI 0]) (rest := []) zp175 rfl rfl (Nat.succ_pos _) rfl rfl (Nat.le_of_ble_eq_true rfl) (Nat.le_of_ble_eq_true rfl) rfl rfl h (fun x4 H3 h => ?_)
      refine g_il zp175 rfl rfl rfl ?_
      refine g_i2l zp175 rfl rfl ?_
      refine g_lar (r := w64 (x4 * l1)) zp175 rfl rfl rfl ?_
      refine g_ll zp175 rfl rfl rfl ?_
      refine g_al zp175 rfl rfl rfl (by decide) ?_
      refine g_il zp175 rfl rfl rfl ?_
      refine g_ic zp175 rfl rfl ?_
      refine g_callL (as := [zR 32, zI l1, zI 1]) (rest := [zL l10, zL (w64 (x4 * l1))]) zp175 rfl rfl (Nat.succ_pos _) rfl rfl (Nat.le_of_ble_eq_true rfl) (Nat.le_of_ble_eq_true rfl) rfl rfl h (fun x6 H5 h => ?_)
      refine g_lar (r := w64 (l10 * x6)) zp175 rfl rfl rfl ?_
      refine g_lcmp zp175 rfl rfl rfl rfl zc1 (fun c7 => ?_) (fun c7 => ?_)
      · replace h := h.1 c7
        refine g_ic zp175 rfl rfl ?_
        exact g_ret zp175 rfl (zret_b (by decide)) ⟨_, rfl, h⟩
      · replace h := h.2 c7
        refine g_al zp175 rfl rfl rfl (by decide) ?_
        refine g_il zp175 rfl rfl rfl ?_
        refine g_ic zp175 rfl rfl ?_
        refine g_ic zp175 rfl rfl ?_
        refine g_callL (as := [zR 32, zI l1, zI 0, zI 0]) (rest := []) zp175 rfl rfl (Nat.succ_pos _) rfl rfl (Nat.le_of_ble_eq_true rfl) (Nat.le_of_ble_eq_true rfl) rfl rfl h (fun x9 H8 h => ?_)
        refine g_il zp175 rfl rfl rfl ?_
        refine g_i2l zp175 rfl rfl ?_
        refine g_lar (r := w64 (x9 * l8)) zp175 rfl rfl rfl ?_
        refine g_ll zp175 rfl rfl rfl ?_
        refine g_al zp175 rfl rfl rfl (by decide) ?_
        refine g_il zp175 rfl rfl rfl ?_
        refine g_ic zp175 rfl rfl ?_
        refine g_ic zp175 rfl rfl ?_
        refine g_callL (as := [zR 32, zI l1, zI 0, zI 1]) (rest := [zL l10, zL (w64 (x9 * l8))]) zp175 rfl rfl (Nat.succ_pos _) rfl rfl (Nat.le_of_ble_eq_true rfl) (Nat.le_of_ble_eq_true rfl) rfl rfl h (fun x11 H10 h => ?_)
        refine g_lar (r := w64 (l10 * x11)) zp175 rfl rfl rfl ?_
        refine g_lcmp zp175 rfl rfl rfl rfl zc0 (fun c12 => ?_) (fun c12 => ?_)
        · replace h := h.1 c12
          refine g_al zp175 rfl rfl rfl (by decide) ?_
          refine g_il zp175 rfl rfl rfl ?_
          refine g_ic zp175 rfl rfl ?_
          refine g_ic zp175 rfl rfl ?_
          refine g_callL (as := [zR 32, zI l1, zI 1, zI 0]) (rest := []) zp175 rfl rfl (Nat.succ_pos _) rfl rfl (Nat.le_of_ble_eq_true rfl) (Nat.le_of_ble_eq_true rfl) rfl rfl h (fun x14 H13 h => ?_)
          refine g_ll zp175 rfl rfl rfl ?_
          refine g_lar (r := w64 (x14 * l10)) zp175 rfl rfl rfl ?_
          refine g_il zp175 rfl rfl rfl ?_
          refine g_i2l zp175 rfl rfl ?_
          refine g_il zp175 rfl rfl rfl ?_
          refine g_i2l zp175 rfl rfl ?_
          refine g_lar (r := w64 (l1 * l8)) zp175 rfl rfl rfl ?_
          refine g_al zp175 rfl rfl rfl (by decide) ?_
          refine g_il zp175 rfl rfl rfl ?_
          refine g_ic zp175 rfl rfl ?_
          refine g_ic zp175 rfl rfl ?_
          refine g_callL (as := [zR 32, zI l1, zI 1, zI 1]) (rest := [zL (w64 (l1 * l8)), zL (w64 (x14 * l10))]) zp175 rfl rfl (Nat.succ_pos _) rfl rfl (Nat.le_of_ble_eq_true rfl) (Nat.le_of_ble_eq_true rfl) rfl rfl h (fun x16 H15 h => ?_)
          refine g_lar (r := w64 ((w64 (l1 * l8)) * x16)) zp175 rfl rfl rfl ?_
          refine g_lcmp zp175 rfl rfl rfl rfl zc0 (fun c17 => ?_) (fun c17 => ?_)
          · replace h := h.1 c17
            refine g_il zp175 rfl rfl rfl ?_
            refine g_ic zp175 rfl rfl ?_
            refine g_ar (r := Int.tmod l1 2) zp175 rfl rfl (zr_rem (by decide)) ?_
            refine g_ic zp175 rfl rfl ?_
            refine g_icmp zp175 rfl rfl zc1 (fun c18 => ?_) (fun c18 => ?_)
            · replace h := h.1 c18
              refine g_al zp175 rfl rfl rfl (by decide) ?_
              refine g_il zp175 rfl rfl rfl ?_
              refine g_callI (as := [zR 32, zI l1]) (rest := []) zp175 rfl rfl (Nat.succ_pos _) rfl rfl (Nat.le_of_ble_eq_true rfl) (Nat.le_of_ble_eq_true rfl) rfl rfl h (fun x20 H19 h => ?_)
              obtain ⟨c21, h⟩ := h
              exact g_ret zp175 rfl (zret_b c21) ⟨_, rfl, h⟩
            · replace h := h.2 c18
              refine g_al zp175 rfl rfl rfl (by decide) ?_
              refine g_il zp175 rfl rfl rfl ?_
              refine g_ic zp175 rfl rfl ?_
              refine g_callI (as := [zR 32, zI l1, zI 0]) (rest := []) zp175 rfl rfl (Nat.succ_pos _) rfl rfl (Nat.le_of_ble_eq_true rfl) (Nat.le_of_ble_eq_true rfl) rfl rfl h (fun x23 H22 h => ?_)
              refine g_ic zp175 rfl rfl ?_
              refine g_icmp zp175 rfl rfl zc1 (fun c24 => ?_) (fun c24 => ?_)
              · replace h := h.1 c24
                refine g_ic zp175 rfl rfl ?_
                refine g_goto zp175 rfl ?_
                exact g_ret zp175 rfl (zret_b (by decide)) ⟨_, rfl, h⟩
              · replace h := h.2 c24
                refine g_al zp175 rfl rfl rfl (by decide) ?_
                refine g_callI (as := [zR 32]) (rest := []) zp175 rfl rfl (Nat.succ_pos _) rfl rfl (Nat.le_of_ble_eq_true rfl) (Nat.le_of_ble_eq_true rfl) rfl rfl h (fun x26 H25 h => ?_)
                refine g_ic zp175 rfl rfl ?_
                refine g_icmp zp175 rfl rfl zc1 (fun c27 => ?_) (fun c27 => ?_)
                · replace h := h.1 c27
                  refine g_ic zp175 rfl rfl ?_
                  refine g_goto zp175 rfl ?_
                  exact g_ret zp175 rfl (zret_b (by decide)) ⟨_, rfl, h⟩
                · replace h := h.2 c27
                  refine g_ic zp175 rfl rfl ?_
                  refine g_goto zp175 rfl ?_
                  exact g_ret zp175 rfl (zret_b (by decide)) ⟨_, rfl, h⟩
          · replace h := h.2 c17
            refine g_ic zp175 rfl rfl ?_
            exact g_ret zp175 rfl (zret_b (by decide)) ⟨_, rfl, h⟩
        · replace h := h.2 c12
          refine g_ic zp175 rfl rfl ?_
          exact g_ret zp175 rfl (zret_b (by decide)) ⟨_, rfl, h⟩
  · replace h := h.2 c1
    refine g_al zp175 rfl rfl rfl (by decide) ?_
    refine g_il zp175 rfl rfl rfl ?_
    refine g_il zp175 rfl rfl rfl ?_
    refine g_callI (as := [zR 32, zI l1, zI l13]) (rest := []) zp175 rfl rfl (Nat.succ_pos _) rfl rfl (Nat.le_of_ble_eq_true rfl) (Nat.le_of_ble_eq_true rfl) rfl rfl h (fun x29 H28 h => ?_)
    refine g_is (ls' := [zR 32, zI l1, zJ, zJ, zJ, zJ, zJ, zJ, zI l8, zJ, zL l10, zJ, zI l12, zI l13, zI x29]) zp175 rfl rfl (Nat.le_of_ble_eq_true rfl) rfl ?_
    refine g_il zp175 rfl rfl rfl ?_
    refine g_il zp175 rfl rfl rfl ?_
    refine g_icmp zp175 rfl rfl zc5 (fun c30 => ?_) (fun c30 => ?_)
    · replace h := h.1 c30
      refine g_ic zp175 rfl rfl ?_
      exact g_ret zp175 rfl (zret_b (by decide)) ⟨_, rfl, h⟩
    · replace h := h.2 c30
      refine g_il zp175 rfl rfl rfl ?_
      refine g_il zp175 rfl rfl rfl ?_
      obtain ⟨c31, h⟩ := h
      refine g_ar (r := Int.tmod l1 x29) zp175 rfl rfl (zr_rem c31) ?_
      refine g_if zp175 rfl rfl zc0 (fun c32 => ?_) (fun c32 => ?_)
      · replace h := h.1 c32
        refine g_il zp175 rfl rfl rfl ?_
        refine g_is (ls' := [zR 32, zI l1, zJ, zJ, zJ, zJ, zJ, zJ, zI l8, zJ, zL l10, zJ, zI x29, zI l13, zI x29]) zp175 rfl rfl (Nat.le_of_ble_eq_true rfl) rfl ?_
        refine g_ll zp175 rfl rfl rfl ?_
        refine g_il zp175 rfl rfl rfl ?_
        refine g_i2l zp175 rfl rfl ?_
        refine g_lar (r := w64 (l10 + x29)) zp175 rfl rfl rfl ?_
        refine g_ls (ls' := [zR 32, zI l1, zJ, zJ, zJ, zJ, zJ, zJ, zI l8, zJ, zL (w64 (l10 + x29)), zJ, zI x29, zI l13, zI x29]) zp175 rfl rfl (Nat.le_of_ble_eq_true rfl) rfl ?_
        refine g_inc (ls' := [zR 32, zI l1, zJ, zJ, zJ, zJ, zJ, zJ, zI l8, zJ, zL (w64 (l10 + x29)), zJ, zI x29, zI (w32 (l13 + 1)), zI x29]) zp175 rfl rfl rfl rfl ?_
        refine g_goto zp175 rfl ?_
        exact g_weak (ls' := [zR 32, zI l1, zJ, zJ, zJ, zJ, zJ, zJ, zI l8, zJ, zL (w64 (l10 + x29)), zJ, zI x29, zI (w32 (l13 + 1)), zJ]) ⟨Or.inr rfl, Or.inr rfl, Or.inr rfl, Or.inr rfl, Or.inr rfl, Or.inr rfl, Or.inr rfl, Or.inr rfl, Or.inr rfl, Or.inr rfl, Or.inr rfl, Or.inr rfl, Or.inr rfl, Or.inr rfl, Or.inl rfl, trivial⟩ h
      · replace h := h.2 c32
        refine g_ic zp175 rfl rfl ?_
        exact g_ret zp175 rfl (zret_b (by decide)) ⟨_, rfl, h⟩
theorem zp176 : zprog.getD 176 [] = zk176 := rfl
theorem x176_0 {w : zWt} {d : Nat} {H : zHt} {K : Int → zHt → Prop} {l1 : Int}
    (h : zclI w d 63 [zR 32, zI l1, zI 1] H (fun x2 H1 => zclI w d 63 [zR 32, zI l1, zI 2] H1 (fun x4 H3 => ((zshl 1 x2) ≠ 0) ∧ (¬ (Int.tmod l1 (zshl 1 x2)) = 0 → K 0 H3) ∧ ((Int.tmod l1 (zshl 1 x2)) = 0 → ((zshl 2 x2) ≠ 0) ∧ ((Int.tmod l1 (zshl 2 x2)) = 0 → K 0 H3) ∧ (¬ (Int.tmod l1 (zshl 2 x2)) = 0 → zclI w d 172 [zI (w32 ((zshl 2 x2) - 1)), zI l1] H3 (fun x10 H9 => (¬ x4 = x10 → K 0 H9) ∧ (x4 = x10 → zclI w d 63 [zR 32, zI l1, zI 0] H9 (fun x13 H12 => (x13 = (zshl x4 x2) → zclL w d 174 [zI x4, zI 0] H12 (fun x16 H15 => zgo w (d + 1) 176 70 [zR 32, zI l1, zI x2, zJ, zL (w64 (x16 + x4)), zJ, zI 0] [] H15 (zQI K))) ∧ (¬ x13 = (zshl x4 x2) → K 0 H12))))))))) :
    zclI w (d + 1) 176 [zR 32, zI l1] H K := by
  show zgo w (d + 1) 176 0 [zR 32, zI l1, zJ, zJ, zJ, zJ, zJ] [] H (zQI K)
  refine g_al zp176 rfl rfl rfl (by decide) ?_
  refine g_il zp176 rfl rfl rfl ?_
  refine g_ic zp176 rfl rfl ?_
  refine g_callI (as := [zR 32, zI l1, zI 1]) (rest := []) zp176 rfl rfl (Nat.succ_pos _) rfl rfl (Nat.le_of_ble_eq_true rfl) (Nat.le_of_ble_eq_true rfl) rfl rfl h (fun x2 H1 h => ?_)
  refine g_is (ls' := [zR 32, zI l1, zI x2, zJ, zJ, zJ, zJ]) zp176 rfl rfl (Nat.le_of_ble_eq_true rfl) rfl ?_
  refine g_al zp176 rfl rfl rfl (by decide) ?_
  refine g_il zp176 rfl rfl rfl ?_
  refine g_ic zp176 rfl rfl ?_
  refine g_callI (as := [zR 32, zI l1, zI 2]) (rest := []) zp176 rfl rfl (Nat.succ_pos _) rfl rfl (Nat.le_of_ble_eq_true rfl) (Nat.le_of_ble_eq_true rfl) rfl rfl h (fun x4 H3 h => ?_)
  refine g_is (ls' := [zR 32, zI l1, zI x2, zI x4, zJ, zJ, zJ]) zp176 rfl rfl (Nat.le_of_ble_eq_true rfl) rfl ?_
  refine g_il zp176 rfl rfl rfl ?_
  refine g_ic zp176 rfl rfl ?_
  refine g_il zp176 rfl rfl rfl ?_
  refine g_ar (r := zshl 1 x2) zp176 rfl rfl rfl ?_
  obtain ⟨c5, h⟩ := h
  refine g_ar (r := Int.tmod l1 (zshl 1 x2)) zp176 rfl rfl (zr_rem c5) ?_
  refine g_if zp176 rfl rfl zc1 (fun c6 => ?_) (fun c6 => ?_)
  · replace h := h.1 c6
    refine g_ic zp176 rfl rfl ?_
    exact g_ret zp176 rfl (zret_b (by decide)) ⟨_, rfl, h⟩
  · replace h := h.2 c6
    refine g_il zp176 rfl rfl rfl ?_
    refine g_ic zp176 rfl rfl ?_
    refine g_il zp176 rfl rfl rfl ?_
    refine g_ar (r := zshl 2 x2) zp176 rfl rfl rfl ?_
    obtain ⟨c7, h⟩ := h
    refine g_ar (r := Int.tmod l1 (zshl 2 x2)) zp176 rfl rfl (zr_rem c7) ?_
    refine g_if zp176 rfl rfl zc0 (fun c8 => ?_) (fun c8 => ?_)
    · replace h := h.1 c8
      refine g_ic zp176 rfl rfl ?_
      exact g_ret zp176 rfl (zret_b (by decide)) ⟨_, rfl, h⟩
    · replace h := h.2 c8
      refine g_il zp176 rfl rfl rfl ?_
      refine g_ic zp176 rfl rfl ?_
      refine g_il zp176 rfl rfl rfl ?_
      refine g_ar (r := zshl 2 x2) zp176 rfl rfl rfl ?_
      refine g_ic zp176 rfl rfl ?_
      refine g_ar (r := w32 ((zshl 2 x2) - 1)) zp176 rfl rfl rfl ?_
      refine g_il zp176 rfl rfl rfl ?_
      refine g_callI (as := [zI (w32 ((zshl 2 x2) - 1)), zI l1]) (rest := [zI x4]) zp176 rfl rfl (Nat.succ_pos _) rfl rfl (Nat.le_of_ble_eq_true rfl) (Nat.le_of_ble_eq_true rfl) rfl rfl h (fun x10 H9 h => ?_)
      refine g_icmp zp176 rfl rfl zc1 (fun c11 => ?_) (fun c11 => ?_)
      · replace h := h.1 c11
        refine g_ic zp176 rfl rfl ?_
        exact g_ret zp176 rfl (zret_b (by decide)) ⟨_, rfl, h⟩
      · replace h := h.2 c11
        refine g_al zp176 rfl rfl rfl (by decide) ?_
        refine g_il zp176 rfl rfl rfl ?_
        refine g_ic zp176 rfl rfl ?_
        refine g_callI (as := [zR 32, zI l1, zI 0]) (rest := []) zp176 rfl rfl (Nat.succ_pos _) rfl rfl (Nat.le_of_ble_eq_true rfl) (Nat.le_of_ble_eq_true rfl) rfl rfl h (fun x13 H12 h => ?_)
        refine g_il zp176 rfl rfl rfl ?_
        refine g_il zp176 rfl rfl rfl ?_
        refine g_ar (r := zshl x4 x2) zp176 rfl rfl rfl ?_
        refine g_icmp zp176 rfl rfl zc0 (fun c14 => ?_) (fun c14 => ?_)
        · replace h := h.1 c14
          refine g_il zp176 rfl rfl rfl ?_
          refine g_ic zp176 rfl rfl ?_
          refine g_callL (as := [zI x4, zI 0]) (rest := []) zp176 rfl rfl (Nat.succ_pos _) rfl rfl (Nat.le_of_ble_eq_true rfl) (Nat.le_of_ble_eq_true rfl) rfl rfl h (fun x16 H15 h => ?_)
          refine g_il zp176 rfl rfl rfl ?_
          refine g_i2l zp176 rfl rfl ?_
          refine g_lar (r := w64 (x16 + x4)) zp176 rfl rfl rfl ?_
          refine g_ls (ls' := [zR 32, zI l1, zI x2, zI x4, zL (w64 (x16 + x4)), zJ, zJ]) zp176 rfl rfl (Nat.le_of_ble_eq_true rfl) rfl ?_
          refine g_ic zp176 rfl rfl ?_
          refine g_is (ls' := [zR 32, zI l1, zI x2, zI x4, zL (w64 (x16 + x4)), zJ, zI 0]) zp176 rfl rfl (Nat.le_of_ble_eq_true rfl) rfl ?_
          exact g_weak (ls' := [zR 32, zI l1, zI x2, zJ, zL (w64 (x16 + x4)), zJ, zI 0]) ⟨Or.inr rfl, Or.inr rfl, Or.inr rfl, Or.inl rfl, Or.inr rfl, Or.inr rfl, Or.inr rfl, trivial⟩ h
        · replace h := h.2 c14
          refine g_ic zp176 rfl rfl ?_
          exact g_ret zp176 rfl (zret_b (by decide)) ⟨_, rfl, h⟩
theorem x176_70 {w : zWt} {d : Nat} {H : zHt} {K : Int → zHt → Prop} {l1 : Int} {l2 : Int} {l4 : Int} {l6 : Int}
    (h : (¬ (Int.tmod l4 2) = 0 → zclI w d 63 [zR 32, zI l1, zI 3] H (fun x3 H2 => (l6 < (w32 (l2 - 1)) → (¬ x3 = 0 → K 0 H2) ∧ (x3 = 0 → K 1 H2)) ∧ ((w32 (l2 - 1)) ≤ l6 → (¬ x3 = 1 → K 0 H2) ∧ (x3 = 1 → K 1 H2)))) ∧ ((Int.tmod l4 2) = 0 → zgo w (d + 1) 176 70 [zR 32, zI l1, zI l2, zJ, zL (w64 (Int.tdiv l4 2)), zJ, zI (w32 (l6 + 1))] [] H (zQI K))) :
    zgo w (d + 1) 176 70 [zR 32, zI l1, zI l2, zJ, zL l4, zJ, zI l6] [] H (zQI K) := by
  refine g_ll zp176 rfl rfl rfl ?_
  refine g_lc zp176 rfl rfl ?_
  refine g_lar (r := Int.tmod l4 2) zp176 rfl rfl (zr_lrem (by decide)) ?_
  refine g_lc zp176 rfl rfl ?_
  refine g_lcmp zp176 rfl rfl rfl rfl zc1 (fun c1 => ?_) (fun c1 => ?_)
  · replace h := h.1 c1
    refine g_al zp176 rfl rfl rfl (by decide) ?_
    refine g_il zp176 rfl rfl rfl ?_
    refine g_ic zp176 rfl rfl ?_
    refine g_callI (as := [zR 32, zI l1, zI 3]) (rest := []) zp176 rfl rfl (Nat.succ_pos _) rfl rfl (Nat.le_of_ble_eq_true rfl) (Nat.le_of_ble_eq_true rfl) rfl rfl h (fun x3 H2 h => ?_)
    refine g_il zp176 rfl rfl rfl ?_
    refine g_il zp176 rfl rfl rfl ?_
    refine g_ic zp176 rfl rfl ?_
    refine g_ar (r := w32 (l2 - 1)) zp176 rfl rfl rfl ?_
    refine g_icmp zp176 rfl rfl zc2 (fun c4 => ?_) (fun c4 => ?_)
    · replace h := h.1 c4
      refine g_ic zp176 rfl rfl ?_
      refine g_icmp zp176 rfl rfl zc1 (fun c5 => ?_) (fun c5 => ?_)
      · replace h := h.1 c5
        refine g_ic zp176 rfl rfl ?_
        exact g_ret zp176 rfl (zret_b (by decide)) ⟨_, rfl, h⟩
      · replace h := h.2 c5
        refine g_ic zp176 rfl rfl ?_
        refine g_goto zp176 rfl ?_
        exact g_ret zp176 rfl (zret_b (by decide)) ⟨_, rfl, h⟩
    · replace h := h.2 c4
      refine g_ic zp176 rfl rfl ?_
      refine g_goto zp176 rfl ?_
      refine g_icmp zp176 rfl rfl zc1 (fun c6 => ?_) (fun c6 => ?_)
      · replace h := h.1 c6
        refine g_ic zp176 rfl rfl ?_
        exact g_ret zp176 rfl (zret_b (by decide)) ⟨_, rfl, h⟩
      · replace h := h.2 c6
        refine g_ic zp176 rfl rfl ?_
        refine g_goto zp176 rfl ?_
        exact g_ret zp176 rfl (zret_b (by decide)) ⟨_, rfl, h⟩
  · replace h := h.2 c1
    refine g_inc (ls' := [zR 32, zI l1, zI l2, zJ, zL l4, zJ, zI (w32 (l6 + 1))]) zp176 rfl rfl rfl rfl ?_
    refine g_ll zp176 rfl rfl rfl ?_
    refine g_lc zp176 rfl rfl ?_
    refine g_lar (r := w64 (Int.tdiv l4 2)) zp176 rfl rfl (zr_ldiv (by decide)) ?_
    refine g_ls (ls' := [zR 32, zI l1, zI l2, zJ, zL (w64 (Int.tdiv l4 2)), zJ, zI (w32 (l6 + 1))]) zp176 rfl rfl (Nat.le_of_ble_eq_true rfl) rfl ?_
    refine g_goto zp176 rfl ?_
    exact g_weak (ls' := [zR 32, zI l1, zI l2, zJ, zL (w64 (Int.tdiv l4 2)), zJ, zI (w32 (l6 + 1))]) ⟨Or.inr rfl, Or.inr rfl, Or.inr rfl, Or.inr rfl, Or.inr rfl, Or.inr rfl, Or.inr rfl, trivial⟩ h
theorem zp177 : zprog.getD 177 [] = zk177 := rfl
theorem x177_0 {w : zWt} {d : Nat} {H : zHt} {K : Int → zHt → Prop} {l1 : Int}
    (h : zclI w d 107 [zR 32, zI l1, zI (-1)] H (fun x2 H1 => (x2 < 1 → K 0 H1) ∧ (1 ≤ x2 → zclI w d 107 [zR 32, zI l1, zI 0] H1 (fun x5 H4 => zclI w d 105 [zR 32, zI l1] H4 (fun x7 H6 => (¬ x5 = x7 → K 0 H6) ∧ (x5 = x7 → zclI w d 107 [zR 32, zI l1, zI x2] H6 (fun x10 H9 => (¬ x10 = (-1) → K 0 H9) ∧ (x10 = (-1) → zclI w d 9 [zR 32] H9 (fun x13 H12 => (¬ x13 = 5 → K 0 H12) ∧ (x13 = 5 → zclI w d 41 [zR 32, zI 2] H12 (fun x16 H15 => (x2 ≤ (w32 (x16 + 1)) → zgo w (d + 1) 177 59 [zR 32, zI l1, zI x2, zI 0, zJ, zJ, zJ, zJ, zJ, zJ, zJ] [] H15 (zQI K)) ∧ ((w32 (x16 + 1)) < x2 → K 0 H15)))))))))))) :
    zclI w (d + 1) 177 [zR 32, zI l1] H K := by
  show zgo w (d + 1) 177 0 [zR 32, zI l1, zJ, zJ, zJ, zJ, zJ, zJ, zJ, zJ, zJ] [] H (zQI K)
  refine g_al zp177 rfl rfl rfl (by decide) ?_
  refine g_il zp177 rfl rfl rfl ?_
  refine g_ic zp177 rfl rfl ?_
  refine g_callI (as := [zR 32, zI l1, zI (-1)]) (rest := []) zp177 rfl rfl (Nat.succ_pos _) rfl rfl (Nat.le_of_ble_eq_true rfl) (Nat.le_of_ble_eq_true rfl) rfl rfl h (fun x2 H1 h => ?_)
  refine g_is (ls' := [zR 32, zI l1, zI x2, zJ, zJ, zJ, zJ, zJ, zJ, zJ, zJ]) zp177 rfl rfl (Nat.le_of_ble_eq_true rfl) rfl ?_
  refine g_il zp177 rfl rfl rfl ?_
  refine g_ic zp177 rfl rfl ?_
  refine g_icmp zp177 rfl rfl zc2 (fun c3 => ?_) (fun c3 => ?_)
  · replace h := h.1 c3
    refine g_ic zp177 rfl rfl ?_
    exact g_ret zp177 rfl (zret_b (by decide)) ⟨_, rfl, h⟩
  · replace h := h.2 c3
    refine g_al zp177 rfl rfl rfl (by decide) ?_
    refine g_il zp177 rfl rfl rfl ?_
    refine g_ic zp177 rfl rfl ?_
    refine g_callI (as := [zR 32, zI l1, zI 0]) (rest := []) zp177 rfl rfl (Nat.succ_pos _) rfl rfl (Nat.le_of_ble_eq_true rfl) (Nat.le_of_ble_eq_true rfl) rfl rfl h (fun x5 H4 h => ?_)
    refine g_al zp177 rfl rfl rfl (by decide) ?_
    refine g_il zp177 rfl rfl rfl ?_
    refine g_callI (as := [zR 32, zI l1]) (rest := [zI x5]) zp177 rfl rfl (Nat.succ_pos _) rfl rfl (Nat.le_of_ble_eq_true rfl) (Nat.le_of_ble_eq_true rfl) rfl rfl h (fun x7 H6 h => ?_)
    refine g_icmp zp177 rfl rfl zc1 (fun c8 => ?_) (fun c8 => ?_)
    · replace h := h.1 c8
      refine g_ic zp177 rfl rfl ?_
      exact g_ret zp177 rfl (zret_b (by decide)) ⟨_, rfl, h⟩
    · replace h := h.2 c8
      refine g_al zp177 rfl rfl rfl (by decide) ?_
      refine g_il zp177 rfl rfl rfl ?_
      refine g_il zp177 rfl rfl rfl ?_
      refine g_callI (as := [zR 32, zI l1, zI x2]) (rest := []) zp177 rfl rfl (Nat.succ_pos _) rfl rfl (Nat.le_of_ble_eq_true rfl) (Nat.le_of_ble_eq_true rfl) rfl rfl h (fun x10 H9 h => ?_)
      refine g_ic zp177 rfl rfl ?_
      refine g_icmp zp177 rfl rfl zc1 (fun c11 => ?_) (fun c11 => ?_)
      · replace h := h.1 c11
        refine g_ic zp177 rfl rfl ?_
        exact g_ret zp177 rfl (zret_b (by decide)) ⟨_, rfl, h⟩
      · replace h := h.2 c11
        refine g_al zp177 rfl rfl rfl (by decide) ?_
        refine g_callI (as := [zR 32]) (rest := []) zp177 rfl rfl (Nat.succ_pos _) rfl rfl (Nat.le_of_ble_eq_true rfl) (Nat.le_of_ble_eq_true rfl) rfl rfl h (fun x13 H12 h => ?_)
        refine g_ic zp177 rfl rfl ?_
        refine g_icmp zp177 rfl rfl zc1 (fun c14 => ?_) (fun c14 => ?_)
        · replace h := h.1 c14
          refine g_ic zp177 rfl rfl ?_
          exact g_ret zp177 rfl (zret_b (by decide)) ⟨_, rfl, h⟩
        · replace h := h.2 c14
          refine g_il zp177 rfl rfl rfl ?_
          refine g_al zp177 rfl rfl rfl (by decide) ?_
          refine g_ic zp177 rfl rfl ?_
          refine g_callI (as := [zR 32, zI 2]) (rest := [zI x2]) zp177 rfl rfl (Nat.succ_pos _) rfl rfl (Nat.le_of_ble_eq_true rfl) (Nat.le_of_ble_eq_true rfl) rfl rfl h (fun x16 H15 h => ?_)
          refine g_ic zp177 rfl rfl ?_
          refine g_ar (r := w32 (x16 + 1)) zp177 rfl rfl rfl ?_
          refine g_icmp zp177 rfl rfl zc5 (fun c17 => ?_) (fun c17 => ?_)
          · replace h := h.1 c17
            refine g_ic zp177 rfl rfl ?_
            refine g_is (ls' := [zR 32, zI l1, zI x2, zI 0, zJ, zJ, zJ, zJ, zJ, zJ, zJ]) zp177 rfl rfl (Nat.le_of_ble_eq_true rfl) rfl ?_
            exact g_weak (ls' := [zR 32, zI l1, zI x2, zI 0, zJ, zJ, zJ, zJ, zJ, zJ, zJ]) ⟨Or.inr rfl, Or.inr rfl, Or.inr rfl, Or.inr rfl, Or.inr rfl, Or.inr rfl, Or.inr rfl, Or.inr rfl, Or.inr rfl, Or.inr rfl, Or.inr rfl, trivial⟩ h
          · replace h := h.2 c17
            refine g_ic zp177 rfl rfl ?_
            exact g_ret zp177 rfl (zret_b (by decide)) ⟨_, rfl, h⟩
theorem x177_59 {w : zWt} {d : Nat} {H : zHt} {K : Int → zHt → Prop} {l1 : Int} {l2 : Int} {l3 : Int}
    (h : (l2 ≤ (w32 (l3 + 1)) → zgo w (d + 1) 177 119 [zR 32, zI l1, zI l2, zI 0, zJ, zJ, zJ, zJ, zJ, zJ, zJ] [] H (zQI K)) ∧ ((w32 (l3 + 1)) < l2 → zclI w d 107 [zR 32, zI l1, zI (w32 (l3 + 1))] H (fun x3 H2 => zclI w d 107 [zR 32, zI l1, zI l3] H2 (fun x5 H4 => zclI w d 41 [zR 32, zI 3] H4 (fun x7 H6 => zclL w d 174 [zI x5, zI x7] H6 (fun x9 H8 => (¬ x3 = x9 → K 0 H8) ∧ (x3 = x9 → zclI w d 107 [zR 32, zI l1, zI (w32 (l3 + 1))] H8 (fun x12 H11 => zclI w d 41 [zR 32, zI 1] H11 (fun x14 H13 => (x12 ≤ x14 → zgo w (d + 1) 177 59 [zR 32, zI l1, zI l2, zI (w32 (l3 + 1)), zJ, zJ, zJ, zJ, zJ, zJ, zJ] [] H13 (zQI K)) ∧ (x14 < x12 → K 0 H13)))))))))) :
    zgo w (d + 1) 177 59 [zR 32, zI l1, zI l2, zI l3, zJ, zJ, zJ, zJ, zJ, zJ, zJ] [] H (zQI K) := by
  refine g_il zp177 rfl rfl rfl ?_
  refine g_ic zp177 rfl rfl ?_
  refine g_ar (r := w32 (l3 + 1)) zp177 rfl rfl rfl ?_
  refine g_il zp177 rfl rfl rfl ?_
  refine g_icmp zp177 rfl rfl zc3 (fun c1 => ?_) (fun c1 => ?_)
  · replace h := h.1 c1
    refine g_ic zp177 rfl rfl ?_
    refine g_is (ls' := [zR 32, zI l1, zI l2, zI 0, zJ, zJ, zJ, zJ, zJ, zJ, zJ]) zp177 rfl rfl (Nat.le_of_ble_eq_true rfl) rfl ?_
    exact g_weak (ls' := [zR 32, zI l1, zI l2, zI 0, zJ, zJ, zJ, zJ, zJ, zJ, zJ]) ⟨Or.inr rfl, Or.inr rfl, Or.inr rfl, Or.inr rfl, Or.inr rfl, Or.inr rfl, Or.inr rfl, Or.inr rfl, Or.inr rfl, Or.inr rfl, Or.inr rfl, trivial⟩ h
  · replace h := h.2 c1
    refine g_al zp177 rfl rfl rfl (by decide) ?_
    refine g_il zp177 rfl rfl rfl ?_
    refine g_il zp177 rfl rfl rfl ?_
    refine g_ic zp177 rfl rfl ?_
    refine g_ar (r := w32 (l3 + 1)) zp177 rfl rfl rfl ?_
    refine g_callI (as := [zR 32, zI l1, zI (w32 (l3 + 1))]) (rest := []) zp177 rfl rfl (Nat.succ_pos _) rfl rfl (Nat.le_of_ble_eq_true rfl) (Nat.le_of_ble_eq_true rfl) rfl rfl h (fun x3 H2 h => ?_)
    refine g_i2l zp177 rfl rfl ?_
    refine g_al zp177 rfl rfl rfl (by decide) ?_
    refine g_il zp177 rfl rfl rfl ?_
    refine g_il zp177 rfl rfl rfl ?_
    refine g_callI (as := [zR 32, zI l1, zI l3]) (rest := [zL x3]) zp177 rfl rfl (Nat.succ_pos _) rfl rfl (Nat.le_of_ble_eq_true rfl) (Nat.le_of_ble_eq_true rfl) rfl rfl h (fun x5 H4 h => ?_)
    refine g_al zp177 rfl rfl rfl (by decide) ?_
    refine g_ic zp177 rfl rfl ?_
    refine g_callI (as := [zR 32, zI 3]) (rest := [zI x5, zL x3]) zp177 rfl rfl (Nat.succ_pos _) rfl rfl (Nat.le_of_ble_eq_true rfl) (Nat.le_of_ble_eq_true rfl) rfl rfl h (fun x7 H6 h => ?_)
    refine g_callL (as := [zI x5, zI x7]) (rest := [zL x3]) zp177 rfl rfl (Nat.succ_pos _) rfl rfl (Nat.le_of_ble_eq_true rfl) (Nat.le_of_ble_eq_true rfl) rfl rfl h (fun x9 H8 h => ?_)
    refine g_lcmp zp177 rfl rfl rfl rfl zc1 (fun c10 => ?_) (fun c10 => ?_)
    · replace h := h.1 c10
      refine g_ic zp177 rfl rfl ?_
      exact g_ret zp177 rfl (zret_b (by decide)) ⟨_, rfl, h⟩
    · replace h := h.2 c10
      refine g_al zp177 rfl rfl rfl (by decide) ?_
      refine g_il zp177 rfl rfl rfl ?_
      refine g_il zp177 rfl rfl rfl ?_
      refine g_ic zp177 rfl rfl ?_
      refine g_ar (r := w32 (l3 + 1)) zp177 rfl rfl rfl ?_
      refine g_callI (as := [zR 32, zI l1, zI (w32 (l3 + 1))]) (rest := []) zp177 rfl rfl (Nat.succ_pos _) rfl rfl (Nat.le_of_ble_eq_true rfl) (Nat.le_of_ble_eq_true rfl) rfl rfl h (fun x12 H11 h => ?_)
      refine g_al zp177 rfl rfl rfl (by decide) ?_
      refine g_ic zp177 rfl rfl ?_
      refine g_callI (as := [zR 32, zI 1]) (rest := [zI x12]) zp177 rfl rfl (Nat.succ_pos _) rfl rfl (Nat.le_of_ble_eq_true rfl) (Nat.le_of_ble_eq_true rfl) rfl rfl h (fun x14 H13 h => ?_)
      refine g_icmp zp177 rfl rfl zc5 (fun c15 => ?_) (fun c15 => ?_)
      · replace h := h.1 c15
        refine g_inc (ls' := [zR 32, zI l1, zI l2, zI (w32 (l3 + 1)), zJ, zJ, zJ, zJ, zJ, zJ, zJ]) zp177 rfl rfl rfl rfl ?_
        refine g_goto zp177 rfl ?_
        exact g_weak (ls' := [zR 32, zI l1, zI l2, zI (w32 (l3 + 1)), zJ, zJ, zJ, zJ, zJ, zJ, zJ]) ⟨Or.inr rfl, Or.inr rfl, Or.inr rfl, Or.inr rfl, Or.inr rfl, Or.inr rfl, Or.inr rfl, Or.inr rfl, Or.inr rfl, Or.inr rfl, Or.inr rfl, trivial⟩ h
      · replace h := h.2 c15
        refine g_ic zp177 rfl rfl ?_
        exact g_ret zp177 rfl (zret_b (by decide)) ⟨_, rfl, h⟩
theorem x177_119 {w : zWt} {d : Nat} {H : zHt} {K : Int → zHt → Prop} {l1 : Int} {l2 : Int} {l3 : Int}
    (h : (l2 ≤ l3 → zclI w d 107 [zR 32, zI l1, zI (w32 (l2 - 1))] H (fun x3 H2 => zclI w d 111 [zR 32, zI l1] H2 (fun x5 H4 => (¬ x3 = 0 → (¬ x5 = 3 → zclI w d 41 [zR 32, zI 3] H4 (fun x9 H8 => zclL w d 174 [zI x3, zI x9] H8 (fun x11 H10 => (¬ x5 = 2 → zclI w d 112 [zR 32, zI l1, zI 0] H10 (fun x14 H13 => (¬ x5 = 1 → K 0 H13) ∧ (x5 = 1 → zclI w d 107 [zR 32, zI l1, zI x14] H13 (fun x17 H16 => (¬ x17 = x11 → K 0 H16) ∧ (x17 = x11 → zclI w d 112 [zR 32, zI l1, zI 1] H16 (fun x20 H19 => (x20 = (w32 (l2 - x14)) → zclI w d 112 [zR 32, zI l1, zI 2] H19 (fun x23 H22 => zgo w (d + 1) 177 328 [zR 32, zI l1, zI l2, zJ, zJ, zJ, zJ, zJ, zI x23, zI 0, zI x14] [] H22 (zQI K))) ∧ (¬ x20 = (w32 (l2 - x14)) → K 0 H19))))))) ∧ (x5 = 2 → zclI w d 41 [zR 32, zI 1] H10 (fun x25 H24 => (x11 ≤ x25 → K 0 H24) ∧ (x25 < x11 → K 1 H24)))))) ∧ (x5 = 3 → zclI w d 41 [zR 32, zI 2] H4 (fun x28 H27 => (¬ l2 = (w32 (x28 + 1)) → K 0 H27) ∧ (l2 = (w32 (x28 + 1)) → K 1 H27)))) ∧ (x3 = 0 → (¬ x5 = 0 → K 0 H4) ∧ (x5 = 0 → zclI w d 112 [zR 32, zI l1, zI 0] H4 (fun x32 H31 => (¬ x32 = (-1) → K 0 H31) ∧ (x32 = (-1) → zclI w d 9 [zR 32] H31 (fun x35 H34 => (¬ x35 = 5 → K 0 H34) ∧ (x35 = 5 → K 1 H34))))))))) ∧ (l3 < l2 → zgo w (d + 1) 177 127 [zR 32, zI l1, zI l2, zI l3, zI 0, zJ, zJ, zJ, zJ, zJ, zJ] [] H (zQI K))) :
    zgo w (d + 1) 177 119 [zR 32, zI l1, zI l2, zI l3, zJ, zJ, zJ, zJ, zJ, zJ, zJ] [] H (zQI K) := by
  refine g_il zp177 rfl rfl rfl ?_
  refine g_il zp177 rfl rfl rfl ?_
  refine g_icmp zp177 rfl rfl zc3 (fun c1 => ?_) (fun c1 => ?_)
  · replace h := h.1 c1
    refine g_al zp177 rfl rfl rfl (by decide) ?_
    refine g_il zp177 rfl rfl rfl ?_
    refine g_il zp177 rfl rfl rfl ?_
    refine g_ic zp177 rfl rfl ?_
    refine g_ar (r := w32 (l2 - 1)) zp177 rfl rfl rfl ?_
    refine g_callI (as := [zR 32, zI l1, zI (w32 (l2 - 1))]) (rest := []) zp177 rfl rfl (Nat.succ_pos _) rfl rfl (Nat.le_of_ble_eq_true rfl) (Nat.le_of_ble_eq_true rfl) rfl rfl h (fun x3 H2 h => ?_)
    refine g_is (ls' := [zR 32, zI l1, zI l2, zI x3, zJ, zJ, zJ, zJ, zJ, zJ, zJ]) zp177 rfl rfl (Nat.le_of_ble_eq_true rfl) rfl ?_
    refine g_al zp177 rfl rfl rfl (by decide) ?_
    refine g_il zp177 rfl rfl rfl ?_
    refine g_callI (as := [zR 32, zI l1]) (rest := []) zp177 rfl rfl (Nat.succ_pos _) rfl rfl (Nat.le_of_ble_eq_true rfl) (Nat.le_of_ble_eq_true rfl) rfl rfl h (fun x5 H4 h => ?_)
    refine g_is (ls' := [zR 32, zI l1, zI l2, zI x3, zI x5, zJ, zJ, zJ, zJ, zJ, zJ]) zp177 rfl rfl (Nat.le_of_ble_eq_true rfl) rfl ?_
    refine g_il zp177 rfl rfl rfl ?_
    refine g_if zp177 rfl rfl zc1 (fun c6 => ?_) (fun c6 => ?_)
    · replace h := h.1 c6
      refine g_il zp177 rfl rfl rfl ?_
      refine g_ic zp177 rfl rfl ?_
      refine g_icmp zp177 rfl rfl zc1 (fun c7 => ?_) (fun c7 => ?_)
      · replace h := h.1 c7
        refine g_il zp177 rfl rfl rfl ?_
        refine g_al zp177 rfl rfl rfl (by decide) ?_
        refine g_ic zp177 rfl rfl ?_
        refine g_callI (as := [zR 32, zI 3]) (rest := [zI x3]) zp177 rfl rfl (Nat.succ_pos _) rfl rfl (Nat.le_of_ble_eq_true rfl) (Nat.le_of_ble_eq_true rfl) rfl rfl h (fun x9 H8 h => ?_)
        refine g_callL (as := [zI x3, zI x9]) (rest := []) zp177 rfl rfl (Nat.succ_pos _) rfl rfl (Nat.le_of_ble_eq_true rfl) (Nat.le_of_ble_eq_true rfl) rfl rfl h (fun x11 H10 h => ?_)
        refine g_ls (ls' := [zR 32, zI l1, zI l2, zI x3, zI x5, zL x11, zJ, zJ, zJ, zJ, zJ]) zp177 rfl rfl (Nat.le_of_ble_eq_true rfl) rfl ?_
        refine g_il zp177 rfl rfl rfl ?_
        refine g_ic zp177 rfl rfl ?_
        refine g_icmp zp177 rfl rfl zc1 (fun c12 => ?_) (fun c12 => ?_)
        · replace h := h.1 c12
          refine g_al zp177 rfl rfl rfl (by decide) ?_
          refine g_il zp177 rfl rfl rfl ?_
          refine g_ic zp177 rfl rfl ?_
          refine g_callI (as := [zR 32, zI l1, zI 0]) (rest := []) zp177 rfl rfl (Nat.succ_pos _) rfl rfl (Nat.le_of_ble_eq_true rfl) (Nat.le_of_ble_eq_true rfl) rfl rfl h (fun x14 H13 h => ?_)
          refine g_is (ls' := [zR 32, zI l1, zI l2, zI x3, zI x5, zL x11, zJ, zI x14, zJ, zJ, zJ]) zp177 rfl rfl (Nat.le_of_ble_eq_true rfl) rfl ?_
          refine g_il zp177 rfl rfl rfl ?_
          refine g_ic zp177 rfl rfl ?_
          refine g_icmp zp177 rfl rfl zc1 (fun c15 => ?_) (fun c15 => ?_)
          · replace h := h.1 c15
            refine g_ic zp177 rfl rfl ?_
            exact g_ret zp177 rfl (zret_b (by decide)) ⟨_, rfl, h⟩
          · replace h := h.2 c15
            refine g_al zp177 rfl rfl rfl (by decide) ?_
            refine g_il zp177 rfl rfl rfl ?_
            refine g_il zp177 rfl rfl rfl ?_
            refine g_callI (as := [zR 32, zI l1, zI x14]) (rest := []) zp177 rfl rfl (Nat.succ_pos _) rfl rfl (Nat.le_of_ble_eq_true rfl) (Nat.le_of_ble_eq_true rfl) rfl rfl h (fun x17 H16 h => ?_)
            refine g_i2l zp177 rfl rfl ?_
            refine g_ll zp177 rfl rfl rfl ?_
            refine g_lcmp zp177 rfl rfl rfl rfl zc1 (fun c18 => ?_) (fun c18 => ?_)
            · replace h := h.1 c18
              refine g_ic zp177 rfl rfl ?_
              exact g_ret zp177 rfl (zret_b (by decide)) ⟨_, rfl, h⟩
            · replace h := h.2 c18
              refine g_al zp177 rfl rfl rfl (by decide) ?_
              refine g_il zp177 rfl rfl rfl ?_
              refine g_ic zp177 rfl rfl ?_
              refine g_callI (as := [zR 32, zI l1, zI 1]) (rest := []) zp177 rfl rfl (Nat.succ_pos _) rfl rfl (Nat.le_of_ble_eq_true rfl) (Nat.le_of_ble_eq_true rfl) rfl rfl h (fun x20 H19 h => ?_)
              refine g_il zp177 rfl rfl rfl ?_
              refine g_il zp177 rfl rfl rfl ?_
              refine g_ar (r := w32 (l2 - x14)) zp177 rfl rfl rfl ?_
              refine g_icmp zp177 rfl rfl zc0 (fun c21 => ?_) (fun c21 => ?_)
              · replace h := h.1 c21
                refine g_al zp177 rfl rfl rfl (by decide) ?_
                refine g_il zp177 rfl rfl rfl ?_
                refine g_ic zp177 rfl rfl ?_
                refine g_callI (as := [zR 32, zI l1, zI 2]) (rest := []) zp177 rfl rfl (Nat.succ_pos _) rfl rfl (Nat.le_of_ble_eq_true rfl) (Nat.le_of_ble_eq_true rfl) rfl rfl h (fun x23 H22 h => ?_)
                refine g_is (ls' := [zR 32, zI l1, zI l2, zI x3, zI x5, zL x11, zJ, zI x14, zI x23, zJ, zJ]) zp177 rfl rfl (Nat.le_of_ble_eq_true rfl) rfl ?_
                refine g_ic zp177 rfl rfl ?_
                refine g_is (ls' := [zR 32, zI l1, zI l2, zI x3, zI x5, zL x11, zJ, zI x14, zI x23, zI 0, zJ]) zp177 rfl rfl (Nat.le_of_ble_eq_true rfl) rfl ?_
                refine g_il zp177 rfl rfl rfl ?_
                refine g_is (ls' := [zR 32, zI l1, zI l2, zI x3, zI x5, zL x11, zJ, zI x14, zI x23, zI 0, zI x14]) zp177 rfl rfl (Nat.le_of_ble_eq_true rfl) rfl ?_
                exact g_weak (ls' := [zR 32, zI l1, zI l2, zJ, zJ, zJ, zJ, zJ, zI x23, zI 0, zI x14]) ⟨Or.inr rfl, Or.inr rfl, Or.inr rfl, Or.inl rfl, Or.inl rfl, Or.inl rfl, Or.inr rfl, Or.inl rfl, Or.inr rfl, Or.inr rfl, Or.inr rfl, trivial⟩ h
              · replace h := h.2 c21
                refine g_ic zp177 rfl rfl ?_
                exact g_ret zp177 rfl (zret_b (by decide)) ⟨_, rfl, h⟩
        · replace h := h.2 c12
          refine g_ll zp177 rfl rfl rfl ?_
          refine g_al zp177 rfl rfl rfl (by decide) ?_
          refine g_ic zp177 rfl rfl ?_
          refine g_callI (as := [zR 32, zI 1]) (rest := [zL x11]) zp177 rfl rfl (Nat.succ_pos _) rfl rfl (Nat.le_of_ble_eq_true rfl) (Nat.le_of_ble_eq_true rfl) rfl rfl h (fun x25 H24 h => ?_)
          refine g_i2l zp177 rfl rfl ?_
          refine g_lcmp zp177 rfl rfl rfl rfl zc5 (fun c26 => ?_) (fun c26 => ?_)
          · replace h := h.1 c26
            refine g_ic zp177 rfl rfl ?_
            exact g_ret zp177 rfl (zret_b (by decide)) ⟨_, rfl, h⟩
          · replace h := h.2 c26
            refine g_ic zp177 rfl rfl ?_
            refine g_goto zp177 rfl ?_
            exact g_ret zp177 rfl (zret_b (by decide)) ⟨_, rfl, h⟩
      · replace h := h.2 c7
        refine g_il zp177 rfl rfl rfl ?_
        refine g_al zp177 rfl rfl rfl (by decide) ?_
        refine g_ic zp177 rfl rfl ?_
        refine g_callI (as := [zR 32, zI 2]) (rest := [zI l2]) zp177 rfl rfl (Nat.succ_pos _) rfl rfl (Nat.le_of_ble_eq_true rfl) (Nat.le_of_ble_eq_true rfl) rfl rfl h (fun x28 H27 h => ?_)
        refine g_ic zp177 rfl rfl ?_
        refine g_ar (r := w32 (x28 + 1)) zp177 rfl rfl rfl ?_
        refine g_icmp zp177 rfl rfl zc1 (fun c29 => ?_) (fun c29 => ?_)
        · replace h := h.1 c29
          refine g_ic zp177 rfl rfl ?_
          exact g_ret zp177 rfl (zret_b (by decide)) ⟨_, rfl, h⟩
        · replace h := h.2 c29
          refine g_ic zp177 rfl rfl ?_
          refine g_goto zp177 rfl ?_
          exact g_ret zp177 rfl (zret_b (by decide)) ⟨_, rfl, h⟩
    · replace h := h.2 c6
      refine g_il zp177 rfl rfl rfl ?_
      refine g_if zp177 rfl rfl zc1 (fun c30 => ?_) (fun c30 => ?_)
      · replace h := h.1 c30
        refine g_ic zp177 rfl rfl ?_
        exact g_ret zp177 rfl (zret_b (by decide)) ⟨_, rfl, h⟩
      · replace h := h.2 c30
        refine g_al zp177 rfl rfl rfl (by decide) ?_
        refine g_il zp177 rfl rfl rfl ?_
        refine g_ic zp177 rfl rfl ?_
        refine g_callI (as := [zR 32, zI l1, zI 0]) (rest := []) zp177 rfl rfl (Nat.succ_pos _) rfl rfl (Nat.le_of_ble_eq_true rfl) (Nat.le_of_ble_eq_true rfl) rfl rfl h (fun x32 H31 h => ?_)
        refine g_ic zp177 rfl rfl ?_
        refine g_icmp zp177 rfl rfl zc1 (fun c33 => ?_) (fun c33 => ?_)
        · replace h := h.1 c33
          refine g_ic zp177 rfl rfl ?_
          exact g_ret zp177 rfl (zret_b (by decide)) ⟨_, rfl, h⟩
        · replace h := h.2 c33
          refine g_al zp177 rfl rfl rfl (by decide) ?_
          refine g_callI (as := [zR 32]) (rest := []) zp177 rfl rfl (Nat.succ_pos _) rfl rfl (Nat.le_of_ble_eq_true rfl) (Nat.le_of_ble_eq_true rfl) rfl rfl h (fun x35 H34 h => ?_)
          refine g_ic zp177 rfl rfl ?_
          refine g_icmp zp177 rfl rfl zc1 (fun c36 => ?_) (fun c36 => ?_)
          · replace h := h.1 c36
            refine g_ic zp177 rfl rfl ?_
            exact g_ret zp177 rfl (zret_b (by decide)) ⟨_, rfl, h⟩
          · replace h := h.2 c36
            refine g_ic zp177 rfl rfl ?_
            refine g_goto zp177 rfl ?_
            exact g_ret zp177 rfl (zret_b (by decide)) ⟨_, rfl, h⟩
  · replace h := h.2 c1
    refine g_ic zp177 rfl rfl ?_
    refine g_is (ls' := [zR 32, zI l1, zI l2, zI l3, zI 0, zJ, zJ, zJ, zJ, zJ, zJ]) zp177 rfl rfl (Nat.le_of_ble_eq_true rfl) rfl ?_
    exact g_weak (ls' := [zR 32, zI l1, zI l2, zI l3, zI 0, zJ, zJ, zJ, zJ, zJ, zJ]) ⟨Or.inr rfl, Or.inr rfl, Or.inr rfl, Or.inr rfl, Or.inr rfl, Or.inr rfl, Or.inr rfl, Or.inr rfl, Or.inr rfl, Or.inr rfl, Or.inr rfl, trivial⟩ h
theorem x177_127 {w : zWt} {d : Nat} {H : zHt} {K : Int → zHt → Prop} {l1 : Int} {l2 : Int} {l3 : Int} {l4 : Int}
    (h : (l3 ≤ l4 → zgo w (d + 1) 177 119 [zR 32, zI l1, zI l2, zI (w32 (l3 + 1)), zJ, zJ, zJ, zJ, zJ, zJ, zJ] [] H (zQI K)) ∧ (l4 < l3 → zclI w d 107 [zR 32, zI l1, zI l3] H (fun x3 H2 => zclI w d 107 [zR 32, zI l1, zI l4] H2 (fun x5 H4 => (¬ x3 = x5 → zgo w (d + 1) 177 127 [zR 32, zI l1, zI l2, zI l3, zI (w32 (l4 + 1)), zJ, zJ, zJ, zJ, zJ, zJ] [] H4 (zQI K)) ∧ (x3 = x5 → K 0 H4))))) :
    zgo w (d + 1) 177 127 [zR 32, zI l1, zI l2, zI l3, zI l4, zJ, zJ, zJ, zJ, zJ, zJ] [] H (zQI K) := by
  refine g_il zp177 rfl rfl rfl ?_
  refine g_il zp177 rfl rfl rfl ?_
  refine g_icmp zp177 rfl rfl zc3 (fun c1 => ?_) (fun c1 => ?_)
  · replace h := h.1 c1
    refine g_inc (ls' := [zR 32, zI l1, zI l2, zI (w32 (l3 + 1)), zI l4, zJ, zJ, zJ, zJ, zJ, zJ]) zp177 rfl rfl rfl rfl ?_
    refine g_goto zp177 rfl ?_
    exact g_weak (ls' := [zR 32, zI l1, zI l2, zI (w32 (l3 + 1)), zJ, zJ, zJ, zJ, zJ, zJ, zJ]) ⟨Or.inr rfl, Or.inr rfl, Or.inr rfl, Or.inr rfl, Or.inl rfl, Or.inr rfl, Or.inr rfl, Or.inr rfl, Or.inr rfl, Or.inr rfl, Or.inr rfl, trivial⟩ h
  · replace h := h.2 c1
    refine g_al zp177 rfl rfl rfl (by decide) ?_
    refine g_il zp177 rfl rfl rfl ?_
    refine g_il zp177 rfl rfl rfl ?_
    refine g_callI (as := [zR 32, zI l1, zI l3]) (rest := []) zp177 rfl rfl (Nat.succ_pos _) rfl rfl (Nat.le_of_ble_eq_true rfl) (Nat.le_of_ble_eq_true rfl) rfl rfl h (fun x3 H2 h => ?_)
    refine g_al zp177 rfl rfl rfl (by decide) ?_
    refine g_il zp177 rfl rfl rfl ?_
    refine g_il zp177 rfl rfl rfl ?_
    refine g_callI (as := [zR 32, zI l1, zI l4]) (rest := [zI x3]) zp177 rfl rfl (Nat.succ_pos _) rfl rfl (Nat.le_of_ble_eq_true rfl) (Nat.le_of_ble_eq_true rfl) rfl rfl h (fun x5 H4 h => ?_)
    refine g_icmp zp177 rfl rfl zc1 (fun c6 => ?_) (fun c6 => ?_)
    · replace h := h.1 c6
      refine g_inc (ls' := [zR 32, zI l1, zI l2, zI l3, zI (w32 (l4 + 1)), zJ, zJ, zJ, zJ, zJ, zJ]) zp177 rfl rfl rfl rfl ?_
      refine g_goto zp177 rfl ?_
      exact g_weak (ls' := [zR 32, zI l1, zI l2, zI l3, zI (w32 (l4 + 1)), zJ, zJ, zJ, zJ, zJ, zJ]) ⟨Or.inr rfl, Or.inr rfl, Or.inr rfl, Or.inr rfl, Or.inr rfl, Or.inr rfl, Or.inr rfl, Or.inr rfl, Or.inr rfl, Or.inr rfl, Or.inr rfl, trivial⟩ h
    · replace h := h.2 c6
      refine g_ic zp177 rfl rfl ?_
      exact g_ret zp177 rfl (zret_b (by decide)) ⟨_, rfl, h⟩
theorem x177_328 {w : zWt} {d : Nat} {H : zHt} {K : Int → zHt → Prop} {l1 : Int} {l2 : Int} {l8 : Int} {l9 : Int} {l10 : Int}
    (h : (l2 ≤ l10 → (l9 = 0 ∨ l9 = 1) ∧ K l9 H) ∧ (l10 < l2 → zclI w d 107 [zR 32, zI l1, zI l10] H (fun x4 H3 => (l8 ≤ x4 → (¬ l9 = 0 → zgo w (d + 1) 177 328 [zR 32, zI l1, zI l2, zJ, zJ, zJ, zJ, zJ, zI l8, zI 1, zI (w32 (l10 + 1))] [] H3 (zQI K)) ∧ (l9 = 0 → zclI w d 107 [zR 32, zI l1, zI l10] H3 (fun x8 H7 => (¬ x8 = l8 → zgo w (d + 1) 177 328 [zR 32, zI l1, zI l2, zJ, zJ, zJ, zJ, zJ, zI l8, zI 0, zI (w32 (l10 + 1))] [] H7 (zQI K)) ∧ (x8 = l8 → zgo w (d + 1) 177 328 [zR 32, zI l1, zI l2, zJ, zJ, zJ, zJ, zJ, zI l8, zI 1, zI (w32 (l10 + 1))] [] H7 (zQI K))))) ∧ (x4 < l8 → K 0 H3)))) :
    zgo w (d + 1) 177 328 [zR 32, zI l1, zI l2, zJ, zJ, zJ, zJ, zJ, zI l8, zI l9, zI l10] [] H (zQI K) := by
  refine g_il zp177 rfl rfl rfl ?_
  refine g_il zp177 rfl rfl rfl ?_
  refine g_icmp zp177 rfl rfl zc3 (fun c1 => ?_) (fun c1 => ?_)
  · replace h := h.1 c1
    refine g_il zp177 rfl rfl rfl ?_
    obtain ⟨c2, h⟩ := h
    exact g_ret zp177 rfl (zret_b c2) ⟨_, rfl, h⟩
  · replace h := h.2 c1
    refine g_al zp177 rfl rfl rfl (by decide) ?_
    refine g_il zp177 rfl rfl rfl ?_
    refine g_il zp177 rfl rfl rfl ?_
    refine g_callI (as := [zR 32, zI l1, zI l10]) (rest := []) zp177 rfl rfl (Nat.succ_pos _) rfl rfl (Nat.le_of_ble_eq_true rfl) (Nat.le_of_ble_eq_true rfl) rfl rfl h (fun x4 H3 h => ?_)
    refine g_il zp177 rfl rfl rfl ?_
    refine g_icmp zp177 rfl rfl zc3 (fun c5 => ?_) (fun c5 => ?_)
    · replace h := h.1 c5
      refine g_il zp177 rfl rfl rfl ?_
      refine g_if zp177 rfl rfl zc1 (fun c6 => ?_) (fun c6 => ?_)
      · replace h := h.1 c6
        refine g_ic zp177 rfl rfl ?_
        refine g_goto zp177 rfl ?_
        refine g_is (ls' := [zR 32, zI l1, zI l2, zJ, zJ, zJ, zJ, zJ, zI l8, zI 1, zI l10]) zp177 rfl rfl (Nat.le_of_ble_eq_true rfl) rfl ?_
        refine g_inc (ls' := [zR 32, zI l1, zI l2, zJ, zJ, zJ, zJ, zJ, zI l8, zI 1, zI (w32 (l10 + 1))]) zp177 rfl rfl rfl rfl ?_
        refine g_goto zp177 rfl ?_
        exact g_weak (ls' := [zR 32, zI l1, zI l2, zJ, zJ, zJ, zJ, zJ, zI l8, zI 1, zI (w32 (l10 + 1))]) ⟨Or.inr rfl, Or.inr rfl, Or.inr rfl, Or.inr rfl, Or.inr rfl, Or.inr rfl, Or.inr rfl, Or.inr rfl, Or.inr rfl, Or.inr rfl, Or.inr rfl, trivial⟩ h
      · replace h := h.2 c6
        refine g_al zp177 rfl rfl rfl (by decide) ?_
        refine g_il zp177 rfl rfl rfl ?_
        refine g_il zp177 rfl rfl rfl ?_
        refine g_callI (as := [zR 32, zI l1, zI l10]) (rest := []) zp177 rfl rfl (Nat.succ_pos _) rfl rfl (Nat.le_of_ble_eq_true rfl) (Nat.le_of_ble_eq_true rfl) rfl rfl h (fun x8 H7 h => ?_)
        refine g_il zp177 rfl rfl rfl ?_
        refine g_icmp zp177 rfl rfl zc1 (fun c9 => ?_) (fun c9 => ?_)
        · replace h := h.1 c9
          refine g_ic zp177 rfl rfl ?_
          refine g_is (ls' := [zR 32, zI l1, zI l2, zJ, zJ, zJ, zJ, zJ, zI l8, zI 0, zI l10]) zp177 rfl rfl (Nat.le_of_ble_eq_true rfl) rfl ?_
          refine g_inc (ls' := [zR 32, zI l1, zI l2, zJ, zJ, zJ, zJ, zJ, zI l8, zI 0, zI (w32 (l10 + 1))]) zp177 rfl rfl rfl rfl ?_
          refine g_goto zp177 rfl ?_
          exact g_weak (ls' := [zR 32, zI l1, zI l2, zJ, zJ, zJ, zJ, zJ, zI l8, zI 0, zI (w32 (l10 + 1))]) ⟨Or.inr rfl, Or.inr rfl, Or.inr rfl, Or.inr rfl, Or.inr rfl, Or.inr rfl, Or.inr rfl, Or.inr rfl, Or.inr rfl, Or.inr rfl, Or.inr rfl, trivial⟩ h
        · replace h := h.2 c9
          refine g_ic zp177 rfl rfl ?_
          refine g_goto zp177 rfl ?_
          refine g_is (ls' := [zR 32, zI l1, zI l2, zJ, zJ, zJ, zJ, zJ, zI l8, zI 1, zI l10]) zp177 rfl rfl (Nat.le_of_ble_eq_true rfl) rfl ?_
          refine g_inc (ls' := [zR 32, zI l1, zI l2, zJ, zJ, zJ, zJ, zJ, zI l8, zI 1, zI (w32 (l10 + 1))]) zp177 rfl rfl rfl rfl ?_
          refine g_goto zp177 rfl ?_
          exact g_weak (ls' := [zR 32, zI l1, zI l2, zJ, zJ, zJ, zJ, zJ, zI l8, zI 1, zI (w32 (l10 + 1))]) ⟨Or.inr rfl, Or.inr rfl, Or.inr rfl, Or.inr rfl, Or.inr rfl, Or.inr rfl, Or.inr rfl, Or.inr rfl, Or.inr rfl, Or.inr rfl, Or.inr rfl, trivial⟩ h
    · replace h := h.2 c5
      refine g_ic zp177 rfl rfl ?_
      exact g_ret zp177 rfl (zret_b (by decide)) ⟨_, rfl, h⟩
