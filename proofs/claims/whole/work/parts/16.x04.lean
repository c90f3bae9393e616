/-! segments: what suffices for a run from there on (by wip/whole/gen3.py) -/
theorem zp108 : zprog.getD 108 [] = zk108 := rfl
theorem x108_0 {w : zWt} {d : Nat} {H : zHt} {K : Int → zHt → Prop} {l1 : Int}
    (h : (0 ≤ l1 ∧ l1 < 6) ∧ (¬ (H (69 + 2 * l1) 4) = 0 → K (69 + 2 * l1) H) ∧ ((H (69 + 2 * l1) 4) = 0 → zclV w d 109 [zR (69 + 2 * l1), zI (H 41 l1), zI (H 40 4), zR 40, zR 36] H (fun H3 => K (69 + 2 * l1) H3))) :
    zclR w (d + 1) 108 [zR 32, zI l1] H K := by
  show zgo w (d + 1) 108 0 [zR 32, zI l1, zJ] [] H (zQR K)
  refine g_al zp108 rfl rfl rfl (by decide) ?_
  refine g_get (v := zR 45) zp108 rfl rfl rfl ⟨rfl, by decide, (by decide)⟩ rfl ?_
  refine g_il zp108 rfl rfl rfl ?_
  obtain ⟨c1, h⟩ := h
  refine g_ald (v := zR (69 + 2 * l1)) zp108 rfl rfl rfl rfl c1 (congrArg (ztag _) (zwk_val c1)) ?_
  refine g_as (ls' := [zR 32, zI l1, zR (69 + 2 * l1)]) zp108 rfl rfl (Nat.le_of_ble_eq_true rfl) (Int.le_trans (by decide) (zW_ge (zW_walk c1))) rfl ?_
  refine g_al zp108 rfl rfl rfl (Int.le_trans (by decide) (zW_ge (zW_walk c1))) ?_
  refine g_get (v := zI (H (69 + 2 * l1) 4)) zp108 rfl rfl (zW_sh (zW_walk c1)) ⟨rfl, by decide, (zW_ge (zW_walk c1))⟩ (congrArg (ztag _) (zM_no (zW_ge (zW_walk c1)) (zW_fx (zW_walk c1) 4 (by decide)))) ?_
  refine g_if zp108 rfl rfl zc1 (fun c2 => ?_) (fun c2 => ?_)
  · replace h := h.1 c2
    refine g_al zp108 rfl rfl rfl (Int.le_trans (by decide) (zW_ge (zW_walk c1))) ?_
    exact g_ret zp108 rfl (zret_r (Int.le_trans (by decide) (zW_ge (zW_walk c1)))) ⟨_, rfl, h⟩
  · replace h := h.2 c2
    refine g_al zp108 rfl rfl rfl (Int.le_trans (by decide) (zW_ge (zW_walk c1))) ?_
    refine g_al zp108 rfl rfl rfl (by decide) ?_
    refine g_get (v := zR 40) zp108 rfl rfl rfl ⟨rfl, by decide, (by decide)⟩ rfl ?_
    refine g_get (v := zR 41) zp108 rfl rfl rfl ⟨rfl, by decide, (by decide)⟩ rfl ?_
    refine g_il zp108 rfl rfl rfl ?_
    refine g_ald (v := zI (H 41 l1)) zp108 rfl rfl rfl rfl c1 rfl ?_
    refine g_al zp108 rfl rfl rfl (by decide) ?_
    refine g_get (v := zR 40) zp108 rfl rfl rfl ⟨rfl, by decide, (by decide)⟩ rfl ?_
    refine g_get (v := zI (H 40 4)) zp108 rfl rfl rfl ⟨rfl, by decide, (by decide)⟩ rfl ?_
    refine g_al zp108 rfl rfl rfl (by decide) ?_
    refine g_get (v := zR 40) zp108 rfl rfl rfl ⟨rfl, by decide, (by decide)⟩ rfl ?_
    refine g_al zp108 rfl rfl rfl (by decide) ?_
    refine g_get (v := zR 36) zp108 rfl rfl rfl ⟨rfl, by decide, (by decide)⟩ rfl ?_
    refine g_callV (as := [zR (69 + 2 * l1), zI (H 41 l1), zI (H 40 4), zR 40, zR 36]) (rest := []) zp108 rfl rfl (Nat.succ_pos _) rfl rfl (Nat.le_of_ble_eq_true rfl) (Nat.le_of_ble_eq_true rfl) (zrecv_of (zW_sh (zW_walk c1)) rfl) rfl h (fun H3 h => ?_)
    refine g_al zp108 rfl rfl rfl (Int.le_trans (by decide) (zW_ge (zW_walk c1))) ?_
    exact g_ret zp108 rfl (zret_r (Int.le_trans (by decide) (zW_ge (zW_walk c1)))) ⟨_, rfl, h⟩
theorem zp109 : zprog.getD 109 [] = zk109 := rfl
theorem x109_0 {w : zWt} {d : Nat} {H : zHt} {K : zHt → Prop} {l0 : Int} (hl0 : zisW l0) {l1 : Int} {l2 : Int} {l3 : Int} (hl3 : zisD l3)
    (h : zgo w (d + 1) 109 30 [zR l0, zJ, zI l2, zR l3, zR 36, zI 1, zJ, zJ] [] (zup (zup (zup (zup (zup H (l0 + 1) 0 l1) l0 1 1) l0 2 3) l0 3 (-1)) l0 4 1) (zQV K)) :
    zclV w (d + 1) 109 [zR l0, zI l1, zI l2, zR l3, zR 36] H K := by
  show zgo w (d + 1) 109 0 [zR l0, zI l1, zI l2, zR l3, zR 36, zJ, zJ, zJ] [] H (zQV K)
  refine g_al zp109 rfl rfl rfl (Int.le_trans (by decide) (zW_ge hl0)) ?_
  refine g_get (v := zR (l0 + 1)) zp109 rfl rfl (zW_sh hl0) ⟨rfl, by decide, (zW_ge hl0)⟩ (congrArg (ztag _) (zW_f0 hl0)) ?_
  refine g_ic zp109 rfl rfl ?_
  refine g_il zp109 rfl rfl rfl ?_
  refine g_iast zp109 rfl rfl (zW_sh1 hl0) (zW_ge1 hl0) (zW_fx1 hl0 _) (by decide) ?_
  refine g_al zp109 rfl rfl rfl (Int.le_trans (by decide) (zW_ge hl0)) ?_
  refine g_ic zp109 rfl rfl ?_
  refine g_putI zp109 rfl rfl (zW_sh hl0) ⟨rfl, by decide, (zW_ge hl0)⟩ (zW_fx hl0 1 (by decide)) rfl ?_
  refine g_al zp109 rfl rfl rfl (Int.le_trans (by decide) (zW_ge hl0)) ?_
  refine g_ic zp109 rfl rfl ?_
  refine g_putI zp109 rfl rfl (zW_sh hl0) ⟨rfl, by decide, (zW_ge hl0)⟩ (zW_fx hl0 2 (by decide)) rfl ?_
  refine g_al zp109 rfl rfl rfl (Int.le_trans (by decide) (zW_ge hl0)) ?_
  refine g_ic zp109 rfl rfl ?_
  refine g_putI zp109 rfl rfl (zW_sh hl0) ⟨rfl, by decide, (zW_ge hl0)⟩ (zW_fx hl0 3 (by decide)) rfl ?_
  refine g_al zp109 rfl rfl rfl (Int.le_trans (by decide) (zW_ge hl0)) ?_
  refine g_ic zp109 rfl rfl ?_
  refine g_putI zp109 rfl rfl (zW_sh hl0) ⟨rfl, by decide, (zW_ge hl0)⟩ (zW_fx hl0 4 (by decide)) (zokv3 (by decide)) ?_
  refine g_ic zp109 rfl rfl ?_
  refine g_is (ls' := [zR l0, zI l1, zI l2, zR l3, zR 36, zI 1, zJ, zJ]) zp109 rfl rfl (Nat.le_of_ble_eq_true rfl) rfl ?_
  exact g_weak (ls' := [zR l0, zJ, zI l2, zR l3, zR 36, zI 1, zJ, zJ]) ⟨Or.inr rfl, Or.inl rfl, Or.inr rfl, Or.inr rfl, Or.inr rfl, Or.inr rfl, Or.inr rfl, Or.inr rfl, trivial⟩ h
theorem x109_30 {w : zWt} {d : Nat} {H : zHt} {K : zHt → Prop} {l0 : Int} (hl0 : zisW l0) {l2 : Int} {l3 : Int} (hl3 : zisD l3) {l5 : Int}
    (h : ((H l3 3) < l5 → K H) ∧ (l5 ≤ (H l3 3) → (101 ≤ l5 → K H) ∧ (l5 < 101 → (0 ≤ (w32 (l5 - 1)) ∧ (w32 (l5 - 1)) < 101) ∧ zclL w d 53 [zR 36, zI l2, zI (H (l0 + 1) (w32 (l5 - 1)))] H (fun x5 H4 => zclI w d 110 [zR l0, zL x5] H4 (fun x7 H6 => (((zup H6 l0 3 x7) l0 3) = (-1) → (x5 ≤ ((zup H6 l0 3 x7) l3 2) → (0 ≤ l5 ∧ l5 < 101) ∧ (¬ x5 = 0 → zgo w (d + 1) 109 30 [zR l0, zJ, zI l2, zR l3, zR 36, zI (w32 (l5 + 1)), zJ, zJ] [] (zup (zup (zup H6 l0 3 x7) (l0 + 1) l5 (w32 x5)) l0 1 (w32 (((zup (zup H6 l0 3 x7) (l0 + 1) l5 (w32 x5)) l0 1) + 1))) (zQV K)) ∧ (x5 = 0 → K (zup (zup (zup (zup H6 l0 3 x7) (l0 + 1) l5 (w32 x5)) l0 1 (w32 (((zup (zup H6 l0 3 x7) (l0 + 1) l5 (w32 x5)) l0 1) + 1))) l0 2 0))) ∧ (((zup H6 l0 3 x7) l3 2) < x5 → K (zup (zup H6 l0 3 x7) l0 2 2))) ∧ (¬ ((zup H6 l0 3 x7) l0 3) = (-1) → K (zup (zup H6 l0 3 x7) l0 2 1))))))) :
    zgo w (d + 1) 109 30 [zR l0, zJ, zI l2, zR l3, zR 36, zI l5, zJ, zJ] [] H (zQV K) := by
  refine g_il zp109 rfl rfl rfl ?_
  refine g_al zp109 rfl rfl rfl (Int.le_trans (by decide) (zD_ge hl3)) ?_
  refine g_get (v := zI (H l3 3)) zp109 rfl rfl (zD_sh hl3) ⟨rfl, by decide, (zD_ge hl3)⟩ (congrArg (ztag _) (zM_no (zD_ge hl3) (zD_fx hl3 3 (by decide)))) ?_
  refine g_icmp zp109 rfl rfl zc4 (fun c1 => ?_) (fun c1 => ?_)
  · replace h := h.1 c1
    exact g_ret zp109 rfl rfl ⟨rfl, h⟩
  · replace h := h.2 c1
    refine g_il zp109 rfl rfl rfl ?_
    refine g_al zp109 rfl rfl rfl (Int.le_trans (by decide) (zW_ge hl0)) ?_
    refine g_get (v := zR (l0 + 1)) zp109 rfl rfl (zW_sh hl0) ⟨rfl, by decide, (zW_ge hl0)⟩ (congrArg (ztag _) (zW_f0 hl0)) ?_
    refine g_len zp109 rfl rfl (zW_sh1 hl0) (by decide) ?_
    refine g_icmp zp109 rfl rfl zc3 (fun c2 => ?_) (fun c2 => ?_)
    · replace h := h.1 c2
      exact g_ret zp109 rfl rfl ⟨rfl, h⟩
    · replace h := h.2 c2
      refine g_al zp109 rfl rfl rfl (by decide) ?_
      refine g_il zp109 rfl rfl rfl ?_
      refine g_al zp109 rfl rfl rfl (Int.le_trans (by decide) (zW_ge hl0)) ?_
      refine g_get (v := zR (l0 + 1)) zp109 rfl rfl (zW_sh hl0) ⟨rfl, by decide, (zW_ge hl0)⟩ (congrArg (ztag _) (zW_f0 hl0)) ?_
      refine g_il zp109 rfl rfl rfl ?_
      refine g_ic zp109 rfl rfl ?_
      refine g_ar (r := w32 (l5 - 1)) zp109 rfl rfl rfl ?_
      obtain ⟨c3, h⟩ := h
      refine g_ald (v := zI (H (l0 + 1) (w32 (l5 - 1)))) zp109 rfl rfl (zW_sh1 hl0) rfl c3 (congrArg (ztag _) (zM_no (zW_ge1 hl0) (zW_fx1 hl0 _))) ?_
      refine g_callL (as := [zR 36, zI l2, zI (H (l0 + 1) (w32 (l5 - 1)))]) (rest := []) zp109 rfl rfl (Nat.succ_pos _) rfl rfl (Nat.le_of_ble_eq_true rfl) (Nat.le_of_ble_eq_true rfl) rfl rfl h (fun x5 H4 h => ?_)
      refine g_ls (ls' := [zR l0, zJ, zI l2, zR l3, zR 36, zI l5, zL x5, zJ]) zp109 rfl rfl (Nat.le_of_ble_eq_true rfl) rfl ?_
      refine g_al zp109 rfl rfl rfl (Int.le_trans (by decide) (zW_ge hl0)) ?_
      refine g_al zp109 rfl rfl rfl (Int.le_trans (by decide) (zW_ge hl0)) ?_
      refine g_ll zp109 rfl rfl rfl ?_
      refine g_callI (as := [zR l0, zL x5]) (rest := [zR l0]) zp109 rfl rfl (Nat.succ_pos _) rfl rfl (Nat.le_of_ble_eq_true rfl) (Nat.le_of_ble_eq_true rfl) (zrecv_of (zW_sh hl0) rfl) rfl h (fun x7 H6 h => ?_)
      refine g_putI zp109 rfl rfl (zW_sh hl0) ⟨rfl, by decide, (zW_ge hl0)⟩ (zW_fx hl0 3 (by decide)) rfl ?_
      refine g_al zp109 rfl rfl rfl (Int.le_trans (by decide) (zW_ge hl0)) ?_
      refine g_get (v := zI ((zup H6 l0 3 x7) l0 3)) zp109 rfl rfl (zW_sh hl0) ⟨rfl, by decide, (zW_ge hl0)⟩ (congrArg (ztag _) (zM_no (zW_ge hl0) (zW_fx hl0 3 (by decide)))) ?_
      refine g_ic zp109 rfl rfl ?_
      refine g_icmp zp109 rfl rfl zc0 (fun c8 => ?_) (fun c8 => ?_)
      · replace h := h.1 c8
        refine g_ll zp109 rfl rfl rfl ?_
        refine g_al zp109 rfl rfl rfl (Int.le_trans (by decide) (zD_ge hl3)) ?_
        refine g_get (v := zI ((zup H6 l0 3 x7) l3 2)) zp109 rfl rfl (zD_sh hl3) ⟨rfl, by decide, (zD_ge hl3)⟩ (congrArg (ztag _) (zM_no (zD_ge hl3) (zD_fx hl3 2 (by decide)))) ?_
        refine g_i2l zp109 rfl rfl ?_
        refine g_lcmp zp109 rfl rfl rfl rfl zc5 (fun c9 => ?_) (fun c9 => ?_)
        · replace h := h.1 c9
          refine g_al zp109 rfl rfl rfl (Int.le_trans (by decide) (zW_ge hl0)) ?_
          refine g_get (v := zR (l0 + 1)) zp109 rfl rfl (zW_sh hl0) ⟨rfl, by decide, (zW_ge hl0)⟩ (congrArg (ztag _) (zW_f0 hl0)) ?_
          refine g_il zp109 rfl rfl rfl ?_
          refine g_ll zp109 rfl rfl rfl ?_
          refine g_l2i zp109 rfl rfl ?_
          obtain ⟨c10, h⟩ := h
          refine g_iast zp109 rfl rfl (zW_sh1 hl0) (zW_ge1 hl0) (zW_fx1 hl0 _) c10 ?_
          refine g_al zp109 rfl rfl rfl (Int.le_trans (by decide) (zW_ge hl0)) ?_
          refine g_dup zp109 rfl rfl rfl ?_
          refine g_get (v := zI ((zup (zup H6 l0 3 x7) (l0 + 1) l5 (w32 x5)) l0 1)) zp109 rfl rfl (zW_sh hl0) ⟨rfl, by decide, (zW_ge hl0)⟩ (congrArg (ztag _) (zM_no (zW_ge hl0) (zW_fx hl0 1 (by decide)))) ?_
          refine g_ic zp109 rfl rfl ?_
          refine g_ar (r := w32 (((zup (zup H6 l0 3 x7) (l0 + 1) l5 (w32 x5)) l0 1) + 1)) zp109 rfl rfl rfl ?_
          refine g_putI zp109 rfl rfl (zW_sh hl0) ⟨rfl, by decide, (zW_ge hl0)⟩ (zW_fx hl0 1 (by decide)) rfl ?_
          refine g_ll zp109 rfl rfl rfl ?_
          refine g_lc zp109 rfl rfl ?_
          refine g_lcmp zp109 rfl rfl rfl rfl zc1 (fun c11 => ?_) (fun c11 => ?_)
          · replace h := h.1 c11
            refine g_inc (ls' := [zR l0, zJ, zI l2, zR l3, zR 36, zI (w32 (l5 + 1)), zL x5, zJ]) zp109 rfl rfl rfl rfl ?_
            refine g_goto zp109 rfl ?_
            exact g_weak (ls' := [zR l0, zJ, zI l2, zR l3, zR 36, zI (w32 (l5 + 1)), zJ, zJ]) ⟨Or.inr rfl, Or.inr rfl, Or.inr rfl, Or.inr rfl, Or.inr rfl, Or.inr rfl, Or.inl rfl, Or.inr rfl, trivial⟩ h
          · replace h := h.2 c11
            refine g_al zp109 rfl rfl rfl (Int.le_trans (by decide) (zW_ge hl0)) ?_
            refine g_ic zp109 rfl rfl ?_
            refine g_putI zp109 rfl rfl (zW_sh hl0) ⟨rfl, by decide, (zW_ge hl0)⟩ (zW_fx hl0 2 (by decide)) rfl ?_
            exact g_ret zp109 rfl rfl ⟨rfl, h⟩
        · replace h := h.2 c9
          refine g_al zp109 rfl rfl rfl (Int.le_trans (by decide) (zW_ge hl0)) ?_
          refine g_ic zp109 rfl rfl ?_
          refine g_putI zp109 rfl rfl (zW_sh hl0) ⟨rfl, by decide, (zW_ge hl0)⟩ (zW_fx hl0 2 (by decide)) rfl ?_
          exact g_ret zp109 rfl rfl ⟨rfl, h⟩
      · replace h := h.2 c8
        refine g_al zp109 rfl rfl rfl (Int.le_trans (by decide) (zW_ge hl0)) ?_
        refine g_ic zp109 rfl rfl ?_
        refine g_putI zp109 rfl rfl (zW_sh hl0) ⟨rfl, by decide, (zW_ge hl0)⟩ (zW_fx hl0 2 (by decide)) rfl ?_
        exact g_ret zp109 rfl rfl ⟨rfl, h⟩
theorem zp110 : zprog.getD 110 [] = zk110 := rfl
theorem x110_0 {w : zWt} {d : Nat} {H : zHt} {K : Int → zHt → Prop} {l0 : Int} (hl0 : zisW l0) {l1 : Int}
    (h : zgo w d 110 2 [zR l0, zL l1, zJ, zI 0] [] H (zQI K)) :
    zclI w d 110 [zR l0, zL l1] H K := by
  show zgo w d 110 0 [zR l0, zL l1, zJ, zJ] [] H (zQI K)
  refine g_ic zp110 rfl rfl ?_
  refine g_is (ls' := [zR l0, zL l1, zJ, zI 0]) zp110 rfl rfl (Nat.le_of_ble_eq_true rfl) rfl ?_
  exact g_weak (ls' := [zR l0, zL l1, zJ, zI 0]) ⟨Or.inr rfl, Or.inr rfl, Or.inr rfl, Or.inr rfl, trivial⟩ h
theorem x110_2 {w : zWt} {d : Nat} {H : zHt} {K : Int → zHt → Prop} {l0 : Int} (hl0 : zisW l0) {l1 : Int} {l3 : Int}
    (h : ((H l0 1) ≤ l3 → K (-1) H) ∧ (l3 < (H l0 1) → (0 ≤ l3 ∧ l3 < 101) ∧ (¬ (H (l0 + 1) l3) = l1 → zgo w d 110 2 [zR l0, zL l1, zJ, zI (w32 (l3 + 1))] [] H (zQI K)) ∧ ((H (l0 + 1) l3) = l1 → K l3 H))) :
    zgo w d 110 2 [zR l0, zL l1, zJ, zI l3] [] H (zQI K) := by
  refine g_il zp110 rfl rfl rfl ?_
  refine g_al zp110 rfl rfl rfl (Int.le_trans (by decide) (zW_ge hl0)) ?_
  refine g_get (v := zI (H l0 1)) zp110 rfl rfl (zW_sh hl0) ⟨rfl, by decide, (zW_ge hl0)⟩ (congrArg (ztag _) (zM_no (zW_ge hl0) (zW_fx hl0 1 (by decide)))) ?_
  refine g_icmp zp110 rfl rfl zc3 (fun c1 => ?_) (fun c1 => ?_)
  · replace h := h.1 c1
    refine g_ic zp110 rfl rfl ?_
    exact g_ret zp110 rfl rfl ⟨_, rfl, h⟩
  · replace h := h.2 c1
    refine g_al zp110 rfl rfl rfl (Int.le_trans (by decide) (zW_ge hl0)) ?_
    refine g_get (v := zR (l0 + 1)) zp110 rfl rfl (zW_sh hl0) ⟨rfl, by decide, (zW_ge hl0)⟩ (congrArg (ztag _) (zW_f0 hl0)) ?_
    refine g_il zp110 rfl rfl rfl ?_
    obtain ⟨c2, h⟩ := h
    refine g_ald (v := zI (H (l0 + 1) l3)) zp110 rfl rfl (zW_sh1 hl0) rfl c2 (congrArg (ztag _) (zM_no (zW_ge1 hl0) (zW_fx1 hl0 _))) ?_
    refine g_i2l zp110 rfl rfl ?_
    refine g_ll zp110 rfl rfl rfl ?_
    refine g_lcmp zp110 rfl rfl rfl rfl zc1 (fun c3 => ?_) (fun c3 => ?_)
    · replace h := h.1 c3
      refine g_inc (ls' := [zR l0, zL l1, zJ, zI (w32 (l3 + 1))]) zp110 rfl rfl rfl rfl ?_
      refine g_goto zp110 rfl ?_
      exact g_weak (ls' := [zR l0, zL l1, zJ, zI (w32 (l3 + 1))]) ⟨Or.inr rfl, Or.inr rfl, Or.inr rfl, Or.inr rfl, trivial⟩ h
    · replace h := h.2 c3
      refine g_il zp110 rfl rfl rfl ?_
      exact g_ret zp110 rfl rfl ⟨_, rfl, h⟩
theorem zp111 : zprog.getD 111 [] = zk111 := rfl
theorem x111_0 {w : zWt} {d : Nat} {H : zHt} {K : Int → zHt → Prop} {l1 : Int}
    (h : zclI w d 106 [zR 32, zI l1] H (fun x2 H1 => (¬ x2 = 0 → zclR w d 108 [zR 32, zI l1] H1 (fun x5 H4 => (zisW x5) ∧ zclI w d 39 [zR 32, zI (H4 x5 2)] H4 (fun x7 H6 => K x7 H6))) ∧ (x2 = 0 → zclI w d 13 [zR 32, zI 2] H1 (fun x9 H8 => K x9 H8)))) :
    zclI w (d + 1) 111 [zR 32, zI l1] H K := by
  show zgo w (d + 1) 111 0 [zR 32, zI l1] [] H (zQI K)
  refine g_al zp111 rfl rfl rfl (by decide) ?_
  refine g_il zp111 rfl rfl rfl ?_
  refine g_callI (as := [zR 32, zI l1]) (rest := []) zp111 rfl rfl (Nat.succ_pos _) rfl rfl (Nat.le_of_ble_eq_true rfl) (Nat.le_of_ble_eq_true rfl) rfl rfl h (fun x2 H1 h => ?_)
  refine g_if zp111 rfl rfl zc1 (fun c3 => ?_) (fun c3 => ?_)
  · replace h := h.1 c3
    refine g_al zp111 rfl rfl rfl (by decide) ?_
    refine g_al zp111 rfl rfl rfl (by decide) ?_
    refine g_il zp111 rfl rfl rfl ?_
    refine g_callR (as := [zR 32, zI l1]) (rest := [zR 32]) zp111 rfl rfl (Nat.succ_pos _) rfl rfl (Nat.le_of_ble_eq_true rfl) (Nat.le_of_ble_eq_true rfl) rfl rfl h (fun x5 H4 h => ?_)
    obtain ⟨fx5, h⟩ := h
    refine g_get (v := zI (H4 x5 2)) zp111 rfl rfl (zW_sh fx5) ⟨rfl, by decide, (zW_ge fx5)⟩ (congrArg (ztag _) (zM_no (zW_ge fx5) (zW_fx fx5 2 (by decide)))) ?_
    refine g_callI (as := [zR 32, zI (H4 x5 2)]) (rest := []) zp111 rfl rfl (Nat.succ_pos _) rfl rfl (Nat.le_of_ble_eq_true rfl) (Nat.le_of_ble_eq_true rfl) rfl rfl h (fun x7 H6 h => ?_)
    exact g_ret zp111 rfl rfl ⟨_, rfl, h⟩
  · replace h := h.2 c3
    refine g_al zp111 rfl rfl rfl (by decide) ?_
    refine g_ic zp111 rfl rfl ?_
    refine g_callI (as := [zR 32, zI 2]) (rest := []) zp111 rfl rfl (Nat.succ_pos _) rfl rfl (Nat.le_of_ble_eq_true rfl) (Nat.le_of_ble_eq_true rfl) rfl rfl h (fun x9 H8 h => ?_)
    exact g_ret zp111 rfl rfl ⟨_, rfl, h⟩
theorem zp112 : zprog.getD 112 [] = zk112 := rfl
theorem x112_0 {w : zWt} {d : Nat} {H : zHt} {K : Int → zHt → Prop} {l1 : Int} {l2 : Int}
    (h : zclI w d 44 [zI l2, zI 2] H (fun x2 H1 => (¬ x2 = 0 → zclI w d 106 [zR 32, zI l1] H1 (fun x5 H4 => (¬ x5 = 0 → zclR w d 108 [zR 32, zI l1] H4 (fun x8 H7 => (zisW x8) ∧ ((H7 x8 2) = 1 → (l2 = 0 → zclI w d 39 [zR 32, zI (H7 x8 3)] H7 (fun x11 H10 => K x11 H10)) ∧ (l2 = 1 → zclI w d 39 [zR 32, zI (w32 ((H7 x8 1) - (H7 x8 3)))] H7 (fun x13 H12 => K x13 H12)) ∧ (¬ l2 = 0 → ¬ l2 = 1 → zclI w d 113 [zR x8] H7 (fun x15 H14 => zclI w d 39 [zR 32, zI x15] H14 (fun x17 H16 => K x17 H16)))) ∧ (¬ (H7 x8 2) = 1 → zclI w d 13 [zR 32, zI 5] H7 (fun x19 H18 => K x19 H18)))) ∧ (x5 = 0 → zclI w d 13 [zR 32, zI 2] H4 (fun x21 H20 => K x21 H20)))) ∧ (x2 = 0 → zclI w d 13 [zR 32, zI 1] H1 (fun x23 H22 => K x23 H22)))) :
    zclI w (d + 1) 112 [zR 32, zI l1, zI l2] H K := by
  show zgo w (d + 1) 112 0 [zR 32, zI l1, zI l2, zJ] [] H (zQI K)
  refine g_il zp112 rfl rfl rfl ?_
  refine g_ic zp112 rfl rfl ?_
  refine g_callI (as := [zI l2, zI 2]) (rest := []) zp112 rfl rfl (Nat.succ_pos _) rfl rfl (Nat.le_of_ble_eq_true rfl) (Nat.le_of_ble_eq_true rfl) rfl rfl h (fun x2 H1 h => ?_)
  refine g_if zp112 rfl rfl zc1 (fun c3 => ?_) (fun c3 => ?_)
  · replace h := h.1 c3
    refine g_al zp112 rfl rfl rfl (by decide) ?_
    refine g_il zp112 rfl rfl rfl ?_
    refine g_callI (as := [zR 32, zI l1]) (rest := []) zp112 rfl rfl (Nat.succ_pos _) rfl rfl (Nat.le_of_ble_eq_true rfl) (Nat.le_of_ble_eq_true rfl) rfl rfl h (fun x5 H4 h => ?_)
    refine g_if zp112 rfl rfl zc1 (fun c6 => ?_) (fun c6 => ?_)
    · replace h := h.1 c6
      refine g_al zp112 rfl rfl rfl (by decide) ?_
      refine g_il zp112 rfl rfl rfl ?_
      refine g_callR (as := [zR 32, zI l1]) (rest := []) zp112 rfl rfl (Nat.succ_pos _) rfl rfl (Nat.le_of_ble_eq_true rfl) (Nat.le_of_ble_eq_true rfl) rfl rfl h (fun x8 H7 h => ?_)
      obtain ⟨fx8, h⟩ := h
      refine g_as (ls' := [zR 32, zI l1, zI l2, zR x8]) zp112 rfl rfl (Nat.le_of_ble_eq_true rfl) (Int.le_trans (by decide) (zW_ge fx8)) rfl ?_
      refine g_al zp112 rfl rfl rfl (Int.le_trans (by decide) (zW_ge fx8)) ?_
      refine g_get (v := zI (H7 x8 2)) zp112 rfl rfl (zW_sh fx8) ⟨rfl, by decide, (zW_ge fx8)⟩ (congrArg (ztag _) (zM_no (zW_ge fx8) (zW_fx fx8 2 (by decide)))) ?_
      refine g_ic zp112 rfl rfl ?_
      refine g_icmp zp112 rfl rfl zc0 (fun c9 => ?_) (fun c9 => ?_)
      · replace h := h.1 c9
        refine g_il zp112 rfl rfl rfl ?_
        rcases Classical.em (l2 = 0) with k0 | k0
        · replace h := h.1 k0
          refine g_lookE (z := 0) zp112 rfl k0 rfl ?_
          refine g_al zp112 rfl rfl rfl (by decide) ?_
          refine g_al zp112 rfl rfl rfl (Int.le_trans (by decide) (zW_ge fx8)) ?_
          refine g_get (v := zI (H7 x8 3)) zp112 rfl rfl (zW_sh fx8) ⟨rfl, by decide, (zW_ge fx8)⟩ (congrArg (ztag _) (zM_no (zW_ge fx8) (zW_fx fx8 3 (by decide)))) ?_
          refine g_callI (as := [zR 32, zI (H7 x8 3)]) (rest := []) zp112 rfl rfl (Nat.succ_pos _) rfl rfl (Nat.le_of_ble_eq_true rfl) (Nat.le_of_ble_eq_true rfl) rfl rfl h (fun x11 H10 h => ?_)
          exact g_ret zp112 rfl rfl ⟨_, rfl, h⟩
        · replace h := h.2
          rcases Classical.em (l2 = 1) with k1 | k1
          · replace h := h.1 k1
            refine g_lookE (z := 1) zp112 rfl k1 rfl ?_
            refine g_al zp112 rfl rfl rfl (by decide) ?_
            refine g_al zp112 rfl rfl rfl (Int.le_trans (by decide) (zW_ge fx8)) ?_
            refine g_get (v := zI (H7 x8 1)) zp112 rfl rfl (zW_sh fx8) ⟨rfl, by decide, (zW_ge fx8)⟩ (congrArg (ztag _) (zM_no (zW_ge fx8) (zW_fx fx8 1 (by decide)))) ?_
            refine g_al zp112 rfl rfl rfl (Int.le_trans (by decide) (zW_ge fx8)) ?_
            refine g_get (v := zI (H7 x8 3)) zp112 rfl rfl (zW_sh fx8) ⟨rfl, by decide, (zW_ge fx8)⟩ (congrArg (ztag _) (zM_no (zW_ge fx8) (zW_fx fx8 3 (by decide)))) ?_
            refine g_ar (r := w32 ((H7 x8 1) - (H7 x8 3))) zp112 rfl rfl rfl ?_
            refine g_callI (as := [zR 32, zI (w32 ((H7 x8 1) - (H7 x8 3)))]) (rest := []) zp112 rfl rfl (Nat.succ_pos _) rfl rfl (Nat.le_of_ble_eq_true rfl) (Nat.le_of_ble_eq_true rfl) rfl rfl h (fun x13 H12 h => ?_)
            exact g_ret zp112 rfl rfl ⟨_, rfl, h⟩
          · replace h := h.2
            replace h := h k0 k1
            refine g_look (q := 99) zp112 rfl (by simp only [zlook, k0, k1, if_false]) ?_
            refine g_al zp112 rfl rfl rfl (by decide) ?_
            refine g_al zp112 rfl rfl rfl (Int.le_trans (by decide) (zW_ge fx8)) ?_
            refine g_callI (as := [zR x8]) (rest := [zR 32]) zp112 rfl rfl (Nat.succ_pos _) rfl rfl (Nat.le_of_ble_eq_true rfl) (Nat.le_of_ble_eq_true rfl) (zrecv_of (zW_sh fx8) rfl) rfl h (fun x15 H14 h => ?_)
            refine g_callI (as := [zR 32, zI x15]) (rest := []) zp112 rfl rfl (Nat.succ_pos _) rfl rfl (Nat.le_of_ble_eq_true rfl) (Nat.le_of_ble_eq_true rfl) rfl rfl h (fun x17 H16 h => ?_)
            exact g_ret zp112 rfl rfl ⟨_, rfl, h⟩
      · replace h := h.2 c9
        refine g_al zp112 rfl rfl rfl (by decide) ?_
        refine g_ic zp112 rfl rfl ?_
        refine g_callI (as := [zR 32, zI 5]) (rest := []) zp112 rfl rfl (Nat.succ_pos _) rfl rfl (Nat.le_of_ble_eq_true rfl) (Nat.le_of_ble_eq_true rfl) rfl rfl h (fun x19 H18 h => ?_)
        exact g_ret zp112 rfl rfl ⟨_, rfl, h⟩
    · replace h := h.2 c6
      refine g_al zp112 rfl rfl rfl (by decide) ?_
      refine g_ic zp112 rfl rfl ?_
      refine g_callI (as := [zR 32, zI 2]) (rest := []) zp112 rfl rfl (Nat.succ_pos _) rfl rfl (Nat.le_of_ble_eq_true rfl) (Nat.le_of_ble_eq_true rfl) rfl rfl h (fun x21 H20 h => ?_)
      exact g_ret zp112 rfl rfl ⟨_, rfl, h⟩
  · replace h := h.2 c3
    refine g_al zp112 rfl rfl rfl (by decide) ?_
    refine g_ic zp112 rfl rfl ?_
    refine g_callI (as := [zR 32, zI 1]) (rest := []) zp112 rfl rfl (Nat.succ_pos _) rfl rfl (Nat.le_of_ble_eq_true rfl) (Nat.le_of_ble_eq_true rfl) rfl rfl h (fun x23 H22 h => ?_)
    exact g_ret zp112 rfl rfl ⟨_, rfl, h⟩
theorem zp113 : zprog.getD 113 [] = zk113 := rfl
theorem x113_0 {w : zWt} {d : Nat} {H : zHt} {K : Int → zHt → Prop} {l0 : Int} (hl0 : zisW l0)
    (h : zclI w d 114 [zR l0] H (fun x2 H1 => zgo w (d + 1) 113 14 [zR l0, zI x2, zI (if 0 < H1 l0 3 then H1 l0 3 else 0)] [] H1 (zQI K))) :
    zclI w (d + 1) 113 [zR l0] H K := by
  show zgo w (d + 1) 113 0 [zR l0, zJ, zJ] [] H (zQI K)
  refine g_al zp113 rfl rfl rfl (Int.le_trans (by decide) (zW_ge hl0)) ?_
  refine g_callI (as := [zR l0]) (rest := []) zp113 rfl rfl (Nat.succ_pos _) rfl rfl (Nat.le_of_ble_eq_true rfl) (Nat.le_of_ble_eq_true rfl) (zrecv_of (zW_sh hl0) rfl) rfl h (fun x2 H1 h => ?_)
  refine g_is (ls' := [zR l0, zI x2, zJ]) zp113 rfl rfl (Nat.le_of_ble_eq_true rfl) rfl ?_
  refine g_ic zp113 rfl rfl ?_
  refine g_al zp113 rfl rfl rfl (Int.le_trans (by decide) (zW_ge hl0)) ?_
  refine g_get (v := zI (H1 l0 3)) zp113 rfl rfl (zW_sh hl0) ⟨rfl, by decide, (zW_ge hl0)⟩ (congrArg (ztag _) (zM_no (zW_ge hl0) (zW_fx hl0 3 (by decide)))) ?_
  refine g_mmax zp113 rfl rfl (Nat.le_of_ble_eq_true rfl) ?_
  refine g_is (ls' := [zR l0, zI x2, zI (if 0 < H1 l0 3 then H1 l0 3 else 0)]) zp113 rfl rfl (Nat.le_of_ble_eq_true rfl) rfl ?_
  exact g_weak (ls' := [zR l0, zI x2, zI (if 0 < H1 l0 3 then H1 l0 3 else 0)]) ⟨Or.inr rfl, Or.inr rfl, Or.inr rfl, trivial⟩ h
theorem x113_14 {w : zWt} {d : Nat} {H : zHt} {K : Int → zHt → Prop} {l0 : Int} (hl0 : zisW l0) {l1 : Int} {l2 : Int}
    (h : ((H l0 1) ≤ l2 → K l1 H) ∧ (l2 < (H l0 1) → (0 ≤ l2 ∧ l2 < 101) ∧ zgo w (d + 1) 113 14 [zR l0, zI (if H (l0 + 1) l2 < l1 then H (l0 + 1) l2 else l1), zI (w32 (l2 + 1))] [] H (zQI K))) :
    zgo w (d + 1) 113 14 [zR l0, zI l1, zI l2] [] H (zQI K) := by
  refine g_il zp113 rfl rfl rfl ?_
  refine g_al zp113 rfl rfl rfl (Int.le_trans (by decide) (zW_ge hl0)) ?_
  refine g_get (v := zI (H l0 1)) zp113 rfl rfl (zW_sh hl0) ⟨rfl, by decide, (zW_ge hl0)⟩ (congrArg (ztag _) (zM_no (zW_ge hl0) (zW_fx hl0 1 (by decide)))) ?_
  refine g_icmp zp113 rfl rfl zc3 (fun c1 => ?_) (fun c1 => ?_)
  · replace h := h.1 c1
    refine g_il zp113 rfl rfl rfl ?_
    exact g_ret zp113 rfl rfl ⟨_, rfl, h⟩
  · replace h := h.2 c1
    refine g_il zp113 rfl rfl rfl ?_
    refine g_al zp113 rfl rfl rfl (Int.le_trans (by decide) (zW_ge hl0)) ?_
    refine g_get (v := zR (l0 + 1)) zp113 rfl rfl (zW_sh hl0) ⟨rfl, by decide, (zW_ge hl0)⟩ (congrArg (ztag _) (zW_f0 hl0)) ?_
    refine g_il zp113 rfl rfl rfl ?_
    obtain ⟨c2, h⟩ := h
    refine g_ald (v := zI (H (l0 + 1) l2)) zp113 rfl rfl (zW_sh1 hl0) rfl c2 (congrArg (ztag _) (zM_no (zW_ge1 hl0) (zW_fx1 hl0 _))) ?_
    refine g_mmin zp113 rfl rfl (Nat.le_of_ble_eq_true rfl) ?_
    refine g_is (ls' := [zR l0, zI (if H (l0 + 1) l2 < l1 then H (l0 + 1) l2 else l1), zI l2]) zp113 rfl rfl (Nat.le_of_ble_eq_true rfl) rfl ?_
    refine g_inc (ls' := [zR l0, zI (if H (l0 + 1) l2 < l1 then H (l0 + 1) l2 else l1), zI (w32 (l2 + 1))]) zp113 rfl rfl rfl rfl ?_
    refine g_goto zp113 rfl ?_
    exact g_weak (ls' := [zR l0, zI (if H (l0 + 1) l2 < l1 then H (l0 + 1) l2 else l1), zI (w32 (l2 + 1))]) ⟨Or.inr rfl, Or.inr rfl, Or.inr rfl, trivial⟩ h
theorem zp114 : zprog.getD 114 [] = zk114 := rfl
theorem x114_0 {w : zWt} {d : Nat} {H : zHt} {K : Int → zHt → Prop} {l0 : Int} (hl0 : zisW l0)
    (h : (0 ≤ (if 0 < w32 ((H l0 1) - 1) then w32 ((H l0 1) - 1) else 0) ∧ (if 0 < w32 ((H l0 1) - 1) then w32 ((H l0 1) - 1) else 0) < 101) ∧ K (H (l0 + 1) (if 0 < w32 ((H l0 1) - 1) then w32 ((H l0 1) - 1) else 0)) H) :
    zclI w d 114 [zR l0] H K := by
  show zgo w d 114 0 [zR l0] [] H (zQI K)
  refine g_al zp114 rfl rfl rfl (Int.le_trans (by decide) (zW_ge hl0)) ?_
  refine g_get (v := zR (l0 + 1)) zp114 rfl rfl (zW_sh hl0) ⟨rfl, by decide, (zW_ge hl0)⟩ (congrArg (ztag _) (zW_f0 hl0)) ?_
  refine g_ic zp114 rfl rfl ?_
  refine g_al zp114 rfl rfl rfl (Int.le_trans (by decide) (zW_ge hl0)) ?_
  refine g_get (v := zI (H l0 1)) zp114 rfl rfl (zW_sh hl0) ⟨rfl, by decide, (zW_ge hl0)⟩ (congrArg (ztag _) (zM_no (zW_ge hl0) (zW_fx hl0 1 (by decide)))) ?_
  refine g_ic zp114 rfl rfl ?_
  refine g_ar (r := w32 ((H l0 1) - 1)) zp114 rfl rfl rfl ?_
  refine g_mmax zp114 rfl rfl (Nat.le_of_ble_eq_true rfl) ?_
  obtain ⟨c1, h⟩ := h
  refine g_ald (v := zI (H (l0 + 1) (if 0 < w32 ((H l0 1) - 1) then w32 ((H l0 1) - 1) else 0))) zp114 rfl rfl (zW_sh1 hl0) rfl c1 (congrArg (ztag _) (zM_no (zW_ge1 hl0) (zW_fx1 hl0 _))) ?_
  exact g_ret zp114 rfl rfl ⟨_, rfl, h⟩
theorem zp115 : zprog.getD 115 [] = zk115 := rfl
theorem x115_0 {w : zWt} {d : Nat} {H : zHt} {K : Int → zHt → Prop} {l1 : Int} {l2 : Int}
    (h : zclI w d 44 [zI l2, zI 1] H (fun x2 H1 => (¬ x2 = 0 → zclI w d 106 [zR 32, zI l1] H1 (fun x5 H4 => (¬ x5 = 0 → zclR w d 108 [zR 32, zI l1] H4 (fun x8 H7 => (zisW x8) ∧ zclI w d 116 [zR x8] H7 (fun x10 H9 => (¬ l2 = 0 → zclI w d 39 [zR 32, zI x10] H9 (fun x13 H12 => K x13 H12)) ∧ (l2 = 0 → (0 ≤ x10 ∧ x10 < 101) ∧ zclI w d 39 [zR 32, zI (H9 (x8 + 1) x10)] H9 (fun x16 H15 => K x16 H15))))) ∧ (x5 = 0 → zclI w d 13 [zR 32, zI 2] H4 (fun x18 H17 => K x18 H17)))) ∧ (x2 = 0 → zclI w d 13 [zR 32, zI 1] H1 (fun x20 H19 => K x20 H19)))) :
    zclI w (d + 1) 115 [zR 32, zI l1, zI l2] H K := by
  show zgo w (d + 1) 115 0 [zR 32, zI l1, zI l2, zJ, zJ] [] H (zQI K)
  refine g_il zp115 rfl rfl rfl ?_
  refine g_ic zp115 rfl rfl ?_
  refine g_callI (as := [zI l2, zI 1]) (rest := []) zp115 rfl rfl (Nat.succ_pos _) rfl rfl (Nat.le_of_ble_eq_true rfl) (Nat.le_of_ble_eq_true rfl) rfl rfl h (fun x2 H1 h => ?_)
  refine g_if zp115 rfl rfl zc1 (fun c3 => ?_) (fun c3 => ?_)
  · replace h := h.1 c3
    refine g_al zp115 rfl rfl rfl (by decide) ?_
    refine g_il zp115 rfl rfl rfl ?_
    refine g_callI (as := [zR 32, zI l1]) (rest := []) zp115 rfl rfl (Nat.succ_pos _) rfl rfl (Nat.le_of_ble_eq_true rfl) (Nat.le_of_ble_eq_true rfl) rfl rfl h (fun x5 H4 h => ?_)
    refine g_if zp115 rfl rfl zc1 (fun c6 => ?_) (fun c6 => ?_)
    · replace h := h.1 c6
      refine g_al zp115 rfl rfl rfl (by decide) ?_
      refine g_il zp115 rfl rfl rfl ?_
      refine g_callR (as := [zR 32, zI l1]) (rest := []) zp115 rfl rfl (Nat.succ_pos _) rfl rfl (Nat.le_of_ble_eq_true rfl) (Nat.le_of_ble_eq_true rfl) rfl rfl h (fun x8 H7 h => ?_)
      obtain ⟨fx8, h⟩ := h
      refine g_as (ls' := [zR 32, zI l1, zI l2, zR x8, zJ]) zp115 rfl rfl (Nat.le_of_ble_eq_true rfl) (Int.le_trans (by decide) (zW_ge fx8)) rfl ?_
      refine g_al zp115 rfl rfl rfl (Int.le_trans (by decide) (zW_ge fx8)) ?_
      refine g_callI (as := [zR x8]) (rest := []) zp115 rfl rfl (Nat.succ_pos _) rfl rfl (Nat.le_of_ble_eq_true rfl) (Nat.le_of_ble_eq_true rfl) (zrecv_of (zW_sh fx8) rfl) rfl h (fun x10 H9 h => ?_)
      refine g_is (ls' := [zR 32, zI l1, zI l2, zR x8, zI x10]) zp115 rfl rfl (Nat.le_of_ble_eq_true rfl) rfl ?_
      refine g_al zp115 rfl rfl rfl (by decide) ?_
      refine g_il zp115 rfl rfl rfl ?_
      refine g_if zp115 rfl rfl zc1 (fun c11 => ?_) (fun c11 => ?_)
      · replace h := h.1 c11
        refine g_il zp115 rfl rfl rfl ?_
        refine g_callI (as := [zR 32, zI x10]) (rest := []) zp115 rfl rfl (Nat.succ_pos _) rfl rfl (Nat.le_of_ble_eq_true rfl) (Nat.le_of_ble_eq_true rfl) rfl rfl h (fun x13 H12 h => ?_)
        exact g_ret zp115 rfl rfl ⟨_, rfl, h⟩
      · replace h := h.2 c11
        refine g_al zp115 rfl rfl rfl (Int.le_trans (by decide) (zW_ge fx8)) ?_
        refine g_get (v := zR (x8 + 1)) zp115 rfl rfl (zW_sh fx8) ⟨rfl, by decide, (zW_ge fx8)⟩ (congrArg (ztag _) (zW_f0 fx8)) ?_
        refine g_il zp115 rfl rfl rfl ?_
        obtain ⟨c14, h⟩ := h
        refine g_ald (v := zI (H9 (x8 + 1) x10)) zp115 rfl rfl (zW_sh1 fx8) rfl c14 (congrArg (ztag _) (zM_no (zW_ge1 fx8) (zW_fx1 fx8 _))) ?_
        refine g_goto zp115 rfl ?_
        refine g_callI (as := [zR 32, zI (H9 (x8 + 1) x10)]) (rest := []) zp115 rfl rfl (Nat.succ_pos _) rfl rfl (Nat.le_of_ble_eq_true rfl) (Nat.le_of_ble_eq_true rfl) rfl rfl h (fun x16 H15 h => ?_)
        exact g_ret zp115 rfl rfl ⟨_, rfl, h⟩
    · replace h := h.2 c6
      refine g_al zp115 rfl rfl rfl (by decide) ?_
      refine g_ic zp115 rfl rfl ?_
      refine g_callI (as := [zR 32, zI 2]) (rest := []) zp115 rfl rfl (Nat.succ_pos _) rfl rfl (Nat.le_of_ble_eq_true rfl) (Nat.le_of_ble_eq_true rfl) rfl rfl h (fun x18 H17 h => ?_)
      exact g_ret zp115 rfl rfl ⟨_, rfl, h⟩
  · replace h := h.2 c3
    refine g_al zp115 rfl rfl rfl (by decide) ?_
    refine g_ic zp115 rfl rfl ?_
    refine g_callI (as := [zR 32, zI 1]) (rest := []) zp115 rfl rfl (Nat.succ_pos _) rfl rfl (Nat.le_of_ble_eq_true rfl) (Nat.le_of_ble_eq_true rfl) rfl rfl h (fun x20 H19 h => ?_)
    exact g_ret zp115 rfl rfl ⟨_, rfl, h⟩
theorem zp116 : zprog.getD 116 [] = zk116 := rfl
theorem x116_0 {w : zWt} {d : Nat} {H : zHt} {K : Int → zHt → Prop} {l0 : Int} (hl0 : zisW l0)
    (h : zgo w d 116 4 [zR l0, zI 0, zI 1] [] H (zQI K)) :
    zclI w d 116 [zR l0] H K := by
  show zgo w d 116 0 [zR l0, zJ, zJ] [] H (zQI K)
  refine g_ic zp116 rfl rfl ?_
  refine g_is (ls' := [zR l0, zI 0, zJ]) zp116 rfl rfl (Nat.le_of_ble_eq_true rfl) rfl ?_
  refine g_ic zp116 rfl rfl ?_
  refine g_is (ls' := [zR l0, zI 0, zI 1]) zp116 rfl rfl (Nat.le_of_ble_eq_true rfl) rfl ?_
  exact g_weak (ls' := [zR l0, zI 0, zI 1]) ⟨Or.inr rfl, Or.inr rfl, Or.inr rfl, trivial⟩ h
theorem x116_4 {w : zWt} {d : Nat} {H : zHt} {K : Int → zHt → Prop} {l0 : Int} (hl0 : zisW l0) {l1 : Int} {l2 : Int}
    (h : ((H l0 1) ≤ l2 → K l1 H) ∧ (l2 < (H l0 1) → (0 ≤ l2 ∧ l2 < 101) ∧ (0 ≤ l1 ∧ l1 < 101) ∧ ((H (l0 + 1) l2) ≤ (H (l0 + 1) l1) → zgo w d 116 4 [zR l0, zI l1, zI (w32 (l2 + 1))] [] H (zQI K)) ∧ ((H (l0 + 1) l1) < (H (l0 + 1) l2) → zgo w d 116 4 [zR l0, zI l2, zI (w32 (l2 + 1))] [] H (zQI K)))) :
    zgo w d 116 4 [zR l0, zI l1, zI l2] [] H (zQI K) := by
  refine g_il zp116 rfl rfl rfl ?_
  refine g_al zp116 rfl rfl rfl (Int.le_trans (by decide) (zW_ge hl0)) ?_
  refine g_get (v := zI (H l0 1)) zp116 rfl rfl (zW_sh hl0) ⟨rfl, by decide, (zW_ge hl0)⟩ (congrArg (ztag _) (zM_no (zW_ge hl0) (zW_fx hl0 1 (by decide)))) ?_
  refine g_icmp zp116 rfl rfl zc3 (fun c1 => ?_) (fun c1 => ?_)
  · replace h := h.1 c1
    refine g_il zp116 rfl rfl rfl ?_
    exact g_ret zp116 rfl rfl ⟨_, rfl, h⟩
  · replace h := h.2 c1
    refine g_al zp116 rfl rfl rfl (Int.le_trans (by decide) (zW_ge hl0)) ?_
    refine g_get (v := zR (l0 + 1)) zp116 rfl rfl (zW_sh hl0) ⟨rfl, by decide, (zW_ge hl0)⟩ (congrArg (ztag _) (zW_f0 hl0)) ?_
    refine g_il zp116 rfl rfl rfl ?_
    obtain ⟨c2, h⟩ := h
    refine g_ald (v := zI (H (l0 + 1) l2)) zp116 rfl rfl (zW_sh1 hl0) rfl c2 (congrArg (ztag _) (zM_no (zW_ge1 hl0) (zW_fx1 hl0 _))) ?_
    refine g_al zp116 rfl rfl rfl (Int.le_trans (by decide) (zW_ge hl0)) ?_
    refine g_get (v := zR (l0 + 1)) zp116 rfl rfl (zW_sh hl0) ⟨rfl, by decide, (zW_ge hl0)⟩ (congrArg (ztag _) (zW_f0 hl0)) ?_
    refine g_il zp116 rfl rfl rfl ?_
    obtain ⟨c3, h⟩ := h
    refine g_ald (v := zI (H (l0 + 1) l1)) zp116 rfl rfl (zW_sh1 hl0) rfl c3 (congrArg (ztag _) (zM_no (zW_ge1 hl0) (zW_fx1 hl0 _))) ?_
    refine g_icmp zp116 rfl rfl zc5 (fun c4 => ?_) (fun c4 => ?_)
    · replace h := h.1 c4
      refine g_inc (ls' := [zR l0, zI l1, zI (w32 (l2 + 1))]) zp116 rfl rfl rfl rfl ?_
      refine g_goto zp116 rfl ?_
      exact g_weak (ls' := [zR l0, zI l1, zI (w32 (l2 + 1))]) ⟨Or.inr rfl, Or.inr rfl, Or.inr rfl, trivial⟩ h
    · replace h := h.2 c4
      refine g_il zp116 rfl rfl rfl ?_
      refine g_is (ls' := [zR l0, zI l2, zI l2]) zp116 rfl rfl (Nat.le_of_ble_eq_true rfl) rfl ?_
      refine g_inc (ls' := [zR l0, zI l2, zI (w32 (l2 + 1))]) zp116 rfl rfl rfl rfl ?_
      refine g_goto zp116 rfl ?_
      exact g_weak (ls' := [zR l0, zI l2, zI (w32 (l2 + 1))]) ⟨Or.inr rfl, Or.inr rfl, Or.inr rfl, trivial⟩ h
theorem zp117 : zprog.getD 117 [] = zk117 := rfl
theorem x117_0 {w : zWt} {d : Nat} {H : zHt} {K : Int → zHt → Prop} {l1 : Int} {l2 : Int}
    (h : zclI w d 44 [zI l2, zI 1] H (fun x2 H1 => (¬ x2 = 0 → zclI w d 106 [zR 32, zI l1] H1 (fun x5 H4 => (¬ x5 = 0 → zclR w d 108 [zR 32, zI l1] H4 (fun x8 H7 => (zisW x8) ∧ zclI w d 118 [zR x8] H7 (fun x10 H9 => (¬ l2 = 0 → zclI w d 39 [zR 32, zI x10] H9 (fun x13 H12 => K x13 H12)) ∧ (l2 = 0 → zclI w d 119 [zR x8, zI x10] H9 (fun x15 H14 => zclI w d 39 [zR 32, zI x15] H14 (fun x17 H16 => K x17 H16)))))) ∧ (x5 = 0 → zclI w d 13 [zR 32, zI 2] H4 (fun x19 H18 => K x19 H18)))) ∧ (x2 = 0 → zclI w d 13 [zR 32, zI 1] H1 (fun x21 H20 => K x21 H20)))) :
    zclI w (d + 1) 117 [zR 32, zI l1, zI l2] H K := by
  show zgo w (d + 1) 117 0 [zR 32, zI l1, zI l2, zJ, zJ] [] H (zQI K)
  refine g_il zp117 rfl rfl rfl ?_
  refine g_ic zp117 rfl rfl ?_
  refine g_callI (as := [zI l2, zI 1]) (rest := []) zp117 rfl rfl (Nat.succ_pos _) rfl rfl (Nat.le_of_ble_eq_true rfl) (Nat.le_of_ble_eq_true rfl) rfl rfl h (fun x2 H1 h => ?_)
  refine g_if zp117 rfl rfl zc1 (fun c3 => ?_) (fun c3 => ?_)
  · replace h := h.1 c3
    refine g_al zp117 rfl rfl rfl (by decide) ?_
    refine g_il zp117 rfl rfl rfl ?_
    refine g_callI (as := [zR 32, zI l1]) (rest := []) zp117 rfl rfl (Nat.succ_pos _) rfl rfl (Nat.le_of_ble_eq_true rfl) (Nat.le_of_ble_eq_true rfl) rfl rfl h (fun x5 H4 h => ?_)
    refine g_if zp117 rfl rfl zc1 (fun c6 => ?_) (fun c6 => ?_)
    · replace h := h.1 c6
      refine g_al zp117 rfl rfl rfl (by decide) ?_
      refine g_il zp117 rfl rfl rfl ?_
      refine g_callR (as := [zR 32, zI l1]) (rest := []) zp117 rfl rfl (Nat.succ_pos _) rfl rfl (Nat.le_of_ble_eq_true rfl) (Nat.le_of_ble_eq_true rfl) rfl rfl h (fun x8 H7 h => ?_)
      obtain ⟨fx8, h⟩ := h
      refine g_as (ls' := [zR 32, zI l1, zI l2, zR x8, zJ]) zp117 rfl rfl (Nat.le_of_ble_eq_true rfl) (Int.le_trans (by decide) (zW_ge fx8)) rfl ?_
      refine g_al zp117 rfl rfl rfl (Int.le_trans (by decide) (zW_ge fx8)) ?_
      refine g_callI (as := [zR x8]) (rest := []) zp117 rfl rfl (Nat.succ_pos _) rfl rfl (Nat.le_of_ble_eq_true rfl) (Nat.le_of_ble_eq_true rfl) (zrecv_of (zW_sh fx8) rfl) rfl h (fun x10 H9 h => ?_)
      refine g_is (ls' := [zR 32, zI l1, zI l2, zR x8, zI x10]) zp117 rfl rfl (Nat.le_of_ble_eq_true rfl) rfl ?_
      refine g_al zp117 rfl rfl rfl (by decide) ?_
      refine g_il zp117 rfl rfl rfl ?_
      refine g_if zp117 rfl rfl zc1 (fun c11 => ?_) (fun c11 => ?_)
      · replace h := h.1 c11
        refine g_il zp117 rfl rfl rfl ?_
        refine g_callI (as := [zR 32, zI x10]) (rest := []) zp117 rfl rfl (Nat.succ_pos _) rfl rfl (Nat.le_of_ble_eq_true rfl) (Nat.le_of_ble_eq_true rfl) rfl rfl h (fun x13 H12 h => ?_)
        exact g_ret zp117 rfl rfl ⟨_, rfl, h⟩
      · replace h := h.2 c11
        refine g_al zp117 rfl rfl rfl (Int.le_trans (by decide) (zW_ge fx8)) ?_
        refine g_il zp117 rfl rfl rfl ?_
        refine g_callI (as := [zR x8, zI x10]) (rest := [zR 32]) zp117 rfl rfl (Nat.succ_pos _) rfl rfl (Nat.le_of_ble_eq_true rfl) (Nat.le_of_ble_eq_true rfl) (zrecv_of (zW_sh fx8) rfl) rfl h (fun x15 H14 h => ?_)
        refine g_goto zp117 rfl ?_
        refine g_callI (as := [zR 32, zI x15]) (rest := []) zp117 rfl rfl (Nat.succ_pos _) rfl rfl (Nat.le_of_ble_eq_true rfl) (Nat.le_of_ble_eq_true rfl) rfl rfl h (fun x17 H16 h => ?_)
        exact g_ret zp117 rfl rfl ⟨_, rfl, h⟩
    · replace h := h.2 c6
      refine g_al zp117 rfl rfl rfl (by decide) ?_
      refine g_ic zp117 rfl rfl ?_
      refine g_callI (as := [zR 32, zI 2]) (rest := []) zp117 rfl rfl (Nat.succ_pos _) rfl rfl (Nat.le_of_ble_eq_true rfl) (Nat.le_of_ble_eq_true rfl) rfl rfl h (fun x19 H18 h => ?_)
      exact g_ret zp117 rfl rfl ⟨_, rfl, h⟩
  · replace h := h.2 c3
    refine g_al zp117 rfl rfl rfl (by decide) ?_
    refine g_ic zp117 rfl rfl ?_
    refine g_callI (as := [zR 32, zI 1]) (rest := []) zp117 rfl rfl (Nat.succ_pos _) rfl rfl (Nat.le_of_ble_eq_true rfl) (Nat.le_of_ble_eq_true rfl) rfl rfl h (fun x21 H20 h => ?_)
    exact g_ret zp117 rfl rfl ⟨_, rfl, h⟩
theorem zp118 : zprog.getD 118 [] = zk118 := rfl
theorem x118_0 {w : zWt} {d : Nat} {H : zHt} {K : Int → zHt → Prop} {l0 : Int} (hl0 : zisW l0)
    (h : zgo w (d + 1) 118 4 [zR l0, zI 0, zI 1] [] H (zQI K)) :
    zclI w (d + 1) 118 [zR l0] H K := by
  show zgo w (d + 1) 118 0 [zR l0, zJ, zJ] [] H (zQI K)
  refine g_ic zp118 rfl rfl ?_
  refine g_is (ls' := [zR l0, zI 0, zJ]) zp118 rfl rfl (Nat.le_of_ble_eq_true rfl) rfl ?_
  refine g_ic zp118 rfl rfl ?_
  refine g_is (ls' := [zR l0, zI 0, zI 1]) zp118 rfl rfl (Nat.le_of_ble_eq_true rfl) rfl ?_
  exact g_weak (ls' := [zR l0, zI 0, zI 1]) ⟨Or.inr rfl, Or.inr rfl, Or.inr rfl, trivial⟩ h
theorem x118_4 {w : zWt} {d : Nat} {H : zHt} {K : Int → zHt → Prop} {l0 : Int} (hl0 : zisW l0) {l1 : Int} {l2 : Int}
    (h : ((H l0 1) ≤ l2 → K l1 H) ∧ (l2 < (H l0 1) → zclI w d 119 [zR l0, zI l2] H (fun x3 H2 => zclI w d 119 [zR l0, zI l1] H2 (fun x5 H4 => (x3 ≤ x5 → zgo w (d + 1) 118 4 [zR l0, zI l1, zI (w32 (l2 + 1))] [] H4 (zQI K)) ∧ (x5 < x3 → zgo w (d + 1) 118 4 [zR l0, zI l2, zI (w32 (l2 + 1))] [] H4 (zQI K)))))) :
    zgo w (d + 1) 118 4 [zR l0, zI l1, zI l2] [] H (zQI K) := by
  refine g_il zp118 rfl rfl rfl ?_
  refine g_al zp118 rfl rfl rfl (Int.le_trans (by decide) (zW_ge hl0)) ?_
  refine g_get (v := zI (H l0 1)) zp118 rfl rfl (zW_sh hl0) ⟨rfl, by decide, (zW_ge hl0)⟩ (congrArg (ztag _) (zM_no (zW_ge hl0) (zW_fx hl0 1 (by decide)))) ?_
  refine g_icmp zp118 rfl rfl zc3 (fun c1 => ?_) (fun c1 => ?_)
  · replace h := h.1 c1
    refine g_il zp118 rfl rfl rfl ?_
    exact g_ret zp118 rfl rfl ⟨_, rfl, h⟩
  · replace h := h.2 c1
    refine g_al zp118 rfl rfl rfl (Int.le_trans (by decide) (zW_ge hl0)) ?_
    refine g_il zp118 rfl rfl rfl ?_
    refine g_callI (as := [zR l0, zI l2]) (rest := []) zp118 rfl rfl (Nat.succ_pos _) rfl rfl (Nat.le_of_ble_eq_true rfl) (Nat.le_of_ble_eq_true rfl) (zrecv_of (zW_sh hl0) rfl) rfl h (fun x3 H2 h => ?_)
    refine g_al zp118 rfl rfl rfl (Int.le_trans (by decide) (zW_ge hl0)) ?_
    refine g_il zp118 rfl rfl rfl ?_
    refine g_callI (as := [zR l0, zI l1]) (rest := [zI x3]) zp118 rfl rfl (Nat.succ_pos _) rfl rfl (Nat.le_of_ble_eq_true rfl) (Nat.le_of_ble_eq_true rfl) (zrecv_of (zW_sh hl0) rfl) rfl h (fun x5 H4 h => ?_)
    refine g_icmp zp118 rfl rfl zc5 (fun c6 => ?_) (fun c6 => ?_)
    · replace h := h.1 c6
      refine g_inc (ls' := [zR l0, zI l1, zI (w32 (l2 + 1))]) zp118 rfl rfl rfl rfl ?_
      refine g_goto zp118 rfl ?_
      exact g_weak (ls' := [zR l0, zI l1, zI (w32 (l2 + 1))]) ⟨Or.inr rfl, Or.inr rfl, Or.inr rfl, trivial⟩ h
    · replace h := h.2 c6
      refine g_il zp118 rfl rfl rfl ?_
      refine g_is (ls' := [zR l0, zI l2, zI l2]) zp118 rfl rfl (Nat.le_of_ble_eq_true rfl) rfl ?_
      refine g_inc (ls' := [zR l0, zI l2, zI (w32 (l2 + 1))]) zp118 rfl rfl rfl rfl ?_
      refine g_goto zp118 rfl ?_
      exact g_weak (ls' := [zR l0, zI l2, zI (w32 (l2 + 1))]) ⟨Or.inr rfl, Or.inr rfl, Or.inr rfl, trivial⟩ h
theorem zp119 : zprog.getD 119 [] = zk119 := rfl
theorem x119_0 {w : zWt} {d : Nat} {H : zHt} {K : Int → zHt → Prop} {l0 : Int} (hl0 : zisW l0) {l1 : Int}
    (h : zgo w d 119 4 [zR l0, zI l1, zI (w32 (l1 + 1))] [] H (zQI K)) :
    zclI w d 119 [zR l0, zI l1] H K := by
  show zgo w d 119 0 [zR l0, zI l1, zJ] [] H (zQI K)
  refine g_il zp119 rfl rfl rfl ?_
  refine g_ic zp119 rfl rfl ?_
  refine g_ar (r := w32 (l1 + 1)) zp119 rfl rfl rfl ?_
  refine g_is (ls' := [zR l0, zI l1, zI (w32 (l1 + 1))]) zp119 rfl rfl (Nat.le_of_ble_eq_true rfl) rfl ?_
  exact g_weak (ls' := [zR l0, zI l1, zI (w32 (l1 + 1))]) ⟨Or.inr rfl, Or.inr rfl, Or.inr rfl, trivial⟩ h
theorem x119_4 {w : zWt} {d : Nat} {H : zHt} {K : Int → zHt → Prop} {l0 : Int} (hl0 : zisW l0) {l1 : Int} {l2 : Int}
    (h : ((H l0 1) ≤ l2 → K (w32 (l2 - l1)) H) ∧ (l2 < (H l0 1) → (0 ≤ l2 ∧ l2 < 101) ∧ (0 ≤ (w32 (l2 - 1)) ∧ (w32 (l2 - 1)) < 101) ∧ ((H (l0 + 1) l2) ≤ (H (l0 + 1) (w32 (l2 - 1))) → K (w32 (l2 - l1)) H) ∧ ((H (l0 + 1) (w32 (l2 - 1))) < (H (l0 + 1) l2) → zgo w d 119 4 [zR l0, zI l1, zI (w32 (l2 + 1))] [] H (zQI K)))) :
    zgo w d 119 4 [zR l0, zI l1, zI l2] [] H (zQI K) := by
  refine g_il zp119 rfl rfl rfl ?_
  refine g_al zp119 rfl rfl rfl (Int.le_trans (by decide) (zW_ge hl0)) ?_
  refine g_get (v := zI (H l0 1)) zp119 rfl rfl (zW_sh hl0) ⟨rfl, by decide, (zW_ge hl0)⟩ (congrArg (ztag _) (zM_no (zW_ge hl0) (zW_fx hl0 1 (by decide)))) ?_
  refine g_icmp zp119 rfl rfl zc3 (fun c1 => ?_) (fun c1 => ?_)
  · replace h := h.1 c1
    refine g_il zp119 rfl rfl rfl ?_
    refine g_il zp119 rfl rfl rfl ?_
    refine g_ar (r := w32 (l2 - l1)) zp119 rfl rfl rfl ?_
    exact g_ret zp119 rfl rfl ⟨_, rfl, h⟩
  · replace h := h.2 c1
    refine g_al zp119 rfl rfl rfl (Int.le_trans (by decide) (zW_ge hl0)) ?_
    refine g_get (v := zR (l0 + 1)) zp119 rfl rfl (zW_sh hl0) ⟨rfl, by decide, (zW_ge hl0)⟩ (congrArg (ztag _) (zW_f0 hl0)) ?_
    refine g_il zp119 rfl rfl rfl ?_
    obtain ⟨c2, h⟩ := h
    refine g_ald (v := zI (H (l0 + 1) l2)) zp119 rfl rfl (zW_sh1 hl0) rfl c2 (congrArg (ztag _) (zM_no (zW_ge1 hl0) (zW_fx1 hl0 _))) ?_
    refine g_al zp119 rfl rfl rfl (Int.le_trans (by decide) (zW_ge hl0)) ?_
    refine g_get (v := zR (l0 + 1)) zp119 rfl rfl (zW_sh hl0) ⟨rfl, by decide, (zW_ge hl0)⟩ (congrArg (ztag _) (zW_f0 hl0)) ?_
    refine g_il zp119 rfl rfl rfl ?_
    refine g_ic zp119 rfl rfl ?_
    refine g_ar (r := w32 (l2 - 1)) zp119 rfl rfl rfl ?_
    obtain ⟨c3, h⟩ := h
    refine g_ald (v := zI (H (l0 + 1) (w32 (l2 - 1)))) zp119 rfl rfl (zW_sh1 hl0) rfl c3 (congrArg (ztag _) (zM_no (zW_ge1 hl0) (zW_fx1 hl0 _))) ?_
    refine g_icmp zp119 rfl rfl zc5 (fun c4 => ?_) (fun c4 => ?_)
    · replace h := h.1 c4
      refine g_il zp119 rfl rfl rfl ?_
      refine g_il zp119 rfl rfl rfl ?_
      refine g_ar (r := w32 (l2 - l1)) zp119 rfl rfl rfl ?_
      exact g_ret zp119 rfl rfl ⟨_, rfl, h⟩
    · replace h := h.2 c4
      refine g_inc (ls' := [zR l0, zI l1, zI (w32 (l2 + 1))]) zp119 rfl rfl rfl rfl ?_
      refine g_goto zp119 rfl ?_
      exact g_weak (ls' := [zR l0, zI l1, zI (w32 (l2 + 1))]) ⟨Or.inr rfl, Or.inr rfl, Or.inr rfl, trivial⟩ h
theorem zp120 : zprog.getD 120 [] = zk120 := rfl
theorem x120_0 {w : zWt} {d : Nat} {H : zHt} {K : Int → zHt → Prop} {l1 : Int} {l2 : Int}
    (h : zclI w d 44 [zI l2, zI 2] H (fun x2 H1 => (¬ x2 = 0 → zclI w d 106 [zR 32, zI l1] H1 (fun x5 H4 => (¬ x5 = 0 → zclR w d 108 [zR 32, zI l1] H4 (fun x8 H7 => (zisW x8) ∧ zgo w (d + 1) 120 48 [zR 32, zJ, zI l2, zR x8, zL 0, zJ, zI 0, zI 0, zI 0, zJ] [] H7 (zQL K))) ∧ (x5 = 0 → zclI w d 13 [zR 32, zI 2] H4 (fun x10 H9 => K x10 H9)))) ∧ (x2 = 0 → zclI w d 13 [zR 32, zI 1] H1 (fun x12 H11 => K x12 H11)))) :
    zclL w (d + 1) 120 [zR 32, zI l1, zI l2] H K := by
  show zgo w (d + 1) 120 0 [zR 32, zI l1, zI l2, zJ, zJ, zJ, zJ, zJ, zJ, zJ] [] H (zQL K)
  refine g_il zp120 rfl rfl rfl ?_
  refine g_ic zp120 rfl rfl ?_
  refine g_callI (as := [zI l2, zI 2]) (rest := []) zp120 rfl rfl (Nat.succ_pos _) rfl rfl (Nat.le_of_ble_eq_true rfl) (Nat.le_of_ble_eq_true rfl) rfl rfl h (fun x2 H1 h => ?_)
  refine g_if zp120 rfl rfl zc1 (fun c3 => ?_) (fun c3 => ?_)
  · replace h := h.1 c3
    refine g_al zp120 rfl rfl rfl (by decide) ?_
    refine g_il zp120 rfl rfl rfl ?_
    refine g_callI (as := [zR 32, zI l1]) (rest := []) zp120 rfl rfl (Nat.succ_pos _) rfl rfl (Nat.le_of_ble_eq_true rfl) (Nat.le_of_ble_eq_true rfl) rfl rfl h (fun x5 H4 h => ?_)
    refine g_if zp120 rfl rfl zc1 (fun c6 => ?_) (fun c6 => ?_)
    · replace h := h.1 c6
      refine g_al zp120 rfl rfl rfl (by decide) ?_
      refine g_il zp120 rfl rfl rfl ?_
      refine g_callR (as := [zR 32, zI l1]) (rest := []) zp120 rfl rfl (Nat.succ_pos _) rfl rfl (Nat.le_of_ble_eq_true rfl) (Nat.le_of_ble_eq_true rfl) rfl rfl h (fun x8 H7 h => ?_)
      obtain ⟨fx8, h⟩ := h
      refine g_as (ls' := [zR 32, zI l1, zI l2, zR x8, zJ, zJ, zJ, zJ, zJ, zJ]) zp120 rfl rfl (Nat.le_of_ble_eq_true rfl) (Int.le_trans (by decide) (zW_ge fx8)) rfl ?_
      refine g_lc zp120 rfl rfl ?_
      refine g_ls (ls' := [zR 32, zI l1, zI l2, zR x8, zL 0, zJ, zJ, zJ, zJ, zJ]) zp120 rfl rfl (Nat.le_of_ble_eq_true rfl) rfl ?_
      refine g_ic zp120 rfl rfl ?_
      refine g_is (ls' := [zR 32, zI l1, zI l2, zR x8, zL 0, zJ, zI 0, zJ, zJ, zJ]) zp120 rfl rfl (Nat.le_of_ble_eq_true rfl) rfl ?_
      refine g_ic zp120 rfl rfl ?_
      refine g_is (ls' := [zR 32, zI l1, zI l2, zR x8, zL 0, zJ, zI 0, zI 0, zJ, zJ]) zp120 rfl rfl (Nat.le_of_ble_eq_true rfl) rfl ?_
      refine g_ic zp120 rfl rfl ?_
      refine g_is (ls' := [zR 32, zI l1, zI l2, zR x8, zL 0, zJ, zI 0, zI 0, zI 0, zJ]) zp120 rfl rfl (Nat.le_of_ble_eq_true rfl) rfl ?_
      exact g_weak (ls' := [zR 32, zJ, zI l2, zR x8, zL 0, zJ, zI 0, zI 0, zI 0, zJ]) ⟨Or.inr rfl, Or.inl rfl, Or.inr rfl, Or.inr rfl, Or.inr rfl, Or.inr rfl, Or.inr rfl, Or.inr rfl, Or.inr rfl, Or.inr rfl, trivial⟩ h
    · replace h := h.2 c6
      refine g_al zp120 rfl rfl rfl (by decide) ?_
      refine g_ic zp120 rfl rfl ?_
      refine g_callI (as := [zR 32, zI 2]) (rest := []) zp120 rfl rfl (Nat.succ_pos _) rfl rfl (Nat.le_of_ble_eq_true rfl) (Nat.le_of_ble_eq_true rfl) rfl rfl h (fun x10 H9 h => ?_)
      refine g_i2l zp120 rfl rfl ?_
      exact g_ret zp120 rfl rfl ⟨_, rfl, h⟩
  · replace h := h.2 c3
    refine g_al zp120 rfl rfl rfl (by decide) ?_
    refine g_ic zp120 rfl rfl ?_
    refine g_callI (as := [zR 32, zI 1]) (rest := []) zp120 rfl rfl (Nat.succ_pos _) rfl rfl (Nat.le_of_ble_eq_true rfl) (Nat.le_of_ble_eq_true rfl) rfl rfl h (fun x12 H11 h => ?_)
    refine g_i2l zp120 rfl rfl ?_
    exact g_ret zp120 rfl rfl ⟨_, rfl, h⟩
theorem x120_48 {w : zWt} {d : Nat} {H : zHt} {K : Int → zHt → Prop} {l2 : Int} {l3 : Int} (hl3 : zisW l3) {l4 : Int} {l6 : Int} {l7 : Int} {l8 : Int}
    (h : ((H l3 1) ≤ l8 → (¬ l2 = 0 → (¬ l2 = 1 → zclI w d 39 [zR 32, zI l7] H (fun x5 H4 => K x5 H4)) ∧ (l2 = 1 → zclI w d 39 [zR 32, zI l6] H (fun x7 H6 => K x7 H6))) ∧ (l2 = 0 → zclL w d 60 [zR 32, zL l4] H (fun x9 H8 => K x9 H8))) ∧ (l8 < (H l3 1) → (0 ≤ l8 ∧ l8 < 101) ∧ (¬ l2 = 2 → zgo w (d + 1) 120 48 [zR 32, zJ, zI l2, zR l3, zL (w64 (l4 + (H (l3 + 1) l8))), zJ, zI (w32 (l6 + (Int.tmod (H (l3 + 1) l8) 2))), zI (w32 (l7 + 0)), zI (w32 (l8 + 1)), zJ] [] H (zQL K)) ∧ (l2 = 2 → zclI w d 103 [zR 36, zI (H (l3 + 1) l8)] H (fun x13 H12 => (x13 = 0 → zgo w (d + 1) 120 48 [zR 32, zJ, zI l2, zR l3, zL (w64 (l4 + (H (l3 + 1) l8))), zJ, zI (w32 (l6 + (Int.tmod (H (l3 + 1) l8) 2))), zI (w32 (l7 + 0)), zI (w32 (l8 + 1)), zJ] [] H12 (zQL K)) ∧ (¬ x13 = 0 → zgo w (d + 1) 120 48 [zR 32, zJ, zI l2, zR l3, zL (w64 (l4 + (H (l3 + 1) l8))), zJ, zI (w32 (l6 + (Int.tmod (H (l3 + 1) l8) 2))), zI (w32 (l7 + 1)), zI (w32 (l8 + 1)), zJ] [] H12 (zQL K)))))) :
    zgo w (d + 1) 120 48 [zR 32, zJ, zI l2, zR l3, zL l4, zJ, zI l6, zI l7, zI l8, zJ] [] H (zQL K) := by
  refine g_il zp120 rfl rfl rfl ?_
  refine g_al zp120 rfl rfl rfl (Int.le_trans (by decide) (zW_ge hl3)) ?_
  refine g_get (v := zI (H l3 1)) zp120 rfl rfl (zW_sh hl3) ⟨rfl, by decide, (zW_ge hl3)⟩ (congrArg (ztag _) (zM_no (zW_ge hl3) (zW_fx hl3 1 (by decide)))) ?_
  refine g_icmp zp120 rfl rfl zc3 (fun c1 => ?_) (fun c1 => ?_)
  · replace h := h.1 c1
    refine g_il zp120 rfl rfl rfl ?_
    refine g_if zp120 rfl rfl zc1 (fun c2 => ?_) (fun c2 => ?_)
    · replace h := h.1 c2
      refine g_al zp120 rfl rfl rfl (by decide) ?_
      refine g_il zp120 rfl rfl rfl ?_
      refine g_ic zp120 rfl rfl ?_
      refine g_icmp zp120 rfl rfl zc1 (fun c3 => ?_) (fun c3 => ?_)
      · replace h := h.1 c3
        refine g_il zp120 rfl rfl rfl ?_
        refine g_callI (as := [zR 32, zI l7]) (rest := []) zp120 rfl rfl (Nat.succ_pos _) rfl rfl (Nat.le_of_ble_eq_true rfl) (Nat.le_of_ble_eq_true rfl) rfl rfl h (fun x5 H4 h => ?_)
        refine g_i2l zp120 rfl rfl ?_
        exact g_ret zp120 rfl rfl ⟨_, rfl, h⟩
      · replace h := h.2 c3
        refine g_il zp120 rfl rfl rfl ?_
        refine g_goto zp120 rfl ?_
        refine g_callI (as := [zR 32, zI l6]) (rest := []) zp120 rfl rfl (Nat.succ_pos _) rfl rfl (Nat.le_of_ble_eq_true rfl) (Nat.le_of_ble_eq_true rfl) rfl rfl h (fun x7 H6 h => ?_)
        refine g_i2l zp120 rfl rfl ?_
        exact g_ret zp120 rfl rfl ⟨_, rfl, h⟩
    · replace h := h.2 c2
      refine g_al zp120 rfl rfl rfl (by decide) ?_
      refine g_ll zp120 rfl rfl rfl ?_
      refine g_callL (as := [zR 32, zL l4]) (rest := []) zp120 rfl rfl (Nat.succ_pos _) rfl rfl (Nat.le_of_ble_eq_true rfl) (Nat.le_of_ble_eq_true rfl) rfl rfl h (fun x9 H8 h => ?_)
      exact g_ret zp120 rfl rfl ⟨_, rfl, h⟩
  · replace h := h.2 c1
    refine g_al zp120 rfl rfl rfl (Int.le_trans (by decide) (zW_ge hl3)) ?_
    refine g_get (v := zR (l3 + 1)) zp120 rfl rfl (zW_sh hl3) ⟨rfl, by decide, (zW_ge hl3)⟩ (congrArg (ztag _) (zW_f0 hl3)) ?_
    refine g_il zp120 rfl rfl rfl ?_
    obtain ⟨c10, h⟩ := h
    refine g_ald (v := zI (H (l3 + 1) l8)) zp120 rfl rfl (zW_sh1 hl3) rfl c10 (congrArg (ztag _) (zM_no (zW_ge1 hl3) (zW_fx1 hl3 _))) ?_
    refine g_is (ls' := [zR 32, zJ, zI l2, zR l3, zL l4, zJ, zI l6, zI l7, zI l8, zI (H (l3 + 1) l8)]) zp120 rfl rfl (Nat.le_of_ble_eq_true rfl) rfl ?_
    refine g_ll zp120 rfl rfl rfl ?_
    refine g_il zp120 rfl rfl rfl ?_
    refine g_i2l zp120 rfl rfl ?_
    refine g_lar (r := w64 (l4 + (H (l3 + 1) l8))) zp120 rfl rfl rfl ?_
    refine g_ls (ls' := [zR 32, zJ, zI l2, zR l3, zL (w64 (l4 + (H (l3 + 1) l8))), zJ, zI l6, zI l7, zI l8, zI (H (l3 + 1) l8)]) zp120 rfl rfl (Nat.le_of_ble_eq_true rfl) rfl ?_
    refine g_il zp120 rfl rfl rfl ?_
    refine g_il zp120 rfl rfl rfl ?_
    refine g_ic zp120 rfl rfl ?_
    refine g_ar (r := Int.tmod (H (l3 + 1) l8) 2) zp120 rfl rfl (zr_rem (by decide)) ?_
    refine g_ar (r := w32 (l6 + (Int.tmod (H (l3 + 1) l8) 2))) zp120 rfl rfl rfl ?_
    refine g_is (ls' := [zR 32, zJ, zI l2, zR l3, zL (w64 (l4 + (H (l3 + 1) l8))), zJ, zI (w32 (l6 + (Int.tmod (H (l3 + 1) l8) 2))), zI l7, zI l8, zI (H (l3 + 1) l8)]) zp120 rfl rfl (Nat.le_of_ble_eq_true rfl) rfl ?_
    refine g_il zp120 rfl rfl rfl ?_
    refine g_il zp120 rfl rfl rfl ?_
    refine g_ic zp120 rfl rfl ?_
    refine g_icmp zp120 rfl rfl zc1 (fun c11 => ?_) (fun c11 => ?_)
    · replace h := h.1 c11
      refine g_ic zp120 rfl rfl ?_
      refine g_ar (r := w32 (l7 + 0)) zp120 rfl rfl rfl ?_
      refine g_is (ls' := [zR 32, zJ, zI l2, zR l3, zL (w64 (l4 + (H (l3 + 1) l8))), zJ, zI (w32 (l6 + (Int.tmod (H (l3 + 1) l8) 2))), zI (w32 (l7 + 0)), zI l8, zI (H (l3 + 1) l8)]) zp120 rfl rfl (Nat.le_of_ble_eq_true rfl) rfl ?_
      refine g_inc (ls' := [zR 32, zJ, zI l2, zR l3, zL (w64 (l4 + (H (l3 + 1) l8))), zJ, zI (w32 (l6 + (Int.tmod (H (l3 + 1) l8) 2))), zI (w32 (l7 + 0)), zI (w32 (l8 + 1)), zI (H (l3 + 1) l8)]) zp120 rfl rfl rfl rfl ?_
      refine g_goto zp120 rfl ?_
      exact g_weak (ls' := [zR 32, zJ, zI l2, zR l3, zL (w64 (l4 + (H (l3 + 1) l8))), zJ, zI (w32 (l6 + (Int.tmod (H (l3 + 1) l8) 2))), zI (w32 (l7 + 0)), zI (w32 (l8 + 1)), zJ]) ⟨Or.inr rfl, Or.inr rfl, Or.inr rfl, Or.inr rfl, Or.inr rfl, Or.inr rfl, Or.inr rfl, Or.inr rfl, Or.inr rfl, Or.inl rfl, trivial⟩ h
    · replace h := h.2 c11
      refine g_al zp120 rfl rfl rfl (by decide) ?_
      refine g_get (v := zR 36) zp120 rfl rfl rfl ⟨rfl, by decide, (by decide)⟩ rfl ?_
      refine g_il zp120 rfl rfl rfl ?_
      refine g_callI (as := [zR 36, zI (H (l3 + 1) l8)]) (rest := [zI l7]) zp120 rfl rfl (Nat.succ_pos _) rfl rfl (Nat.le_of_ble_eq_true rfl) (Nat.le_of_ble_eq_true rfl) rfl rfl h (fun x13 H12 h => ?_)
      refine g_if zp120 rfl rfl zc0 (fun c14 => ?_) (fun c14 => ?_)
      · replace h := h.1 c14
        refine g_ic zp120 rfl rfl ?_
        refine g_ar (r := w32 (l7 + 0)) zp120 rfl rfl rfl ?_
        refine g_is (ls' := [zR 32, zJ, zI l2, zR l3, zL (w64 (l4 + (H (l3 + 1) l8))), zJ, zI (w32 (l6 + (Int.tmod (H (l3 + 1) l8) 2))), zI (w32 (l7 + 0)), zI l8, zI (H (l3 + 1) l8)]) zp120 rfl rfl (Nat.le_of_ble_eq_true rfl) rfl ?_
        refine g_inc (ls' := [zR 32, zJ, zI l2, zR l3, zL (w64 (l4 + (H (l3 + 1) l8))), zJ, zI (w32 (l6 + (Int.tmod (H (l3 + 1) l8) 2))), zI (w32 (l7 + 0)), zI (w32 (l8 + 1)), zI (H (l3 + 1) l8)]) zp120 rfl rfl rfl rfl ?_
        refine g_goto zp120 rfl ?_
        exact g_weak (ls' := [zR 32, zJ, zI l2, zR l3, zL (w64 (l4 + (H (l3 + 1) l8))), zJ, zI (w32 (l6 + (Int.tmod (H (l3 + 1) l8) 2))), zI (w32 (l7 + 0)), zI (w32 (l8 + 1)), zJ]) ⟨Or.inr rfl, Or.inr rfl, Or.inr rfl, Or.inr rfl, Or.inr rfl, Or.inr rfl, Or.inr rfl, Or.inr rfl, Or.inr rfl, Or.inl rfl, trivial⟩ h
      · replace h := h.2 c14
        refine g_ic zp120 rfl rfl ?_
        refine g_goto zp120 rfl ?_
        refine g_ar (r := w32 (l7 + 1)) zp120 rfl rfl rfl ?_
        refine g_is (ls' := [zR 32, zJ, zI l2, zR l3, zL (w64 (l4 + (H (l3 + 1) l8))), zJ, zI (w32 (l6 + (Int.tmod (H (l3 + 1) l8) 2))), zI (w32 (l7 + 1)), zI l8, zI (H (l3 + 1) l8)]) zp120 rfl rfl (Nat.le_of_ble_eq_true rfl) rfl ?_
        refine g_inc (ls' := [zR 32, zJ, zI l2, zR l3, zL (w64 (l4 + (H (l3 + 1) l8))), zJ, zI (w32 (l6 + (Int.tmod (H (l3 + 1) l8) 2))), zI (w32 (l7 + 1)), zI (w32 (l8 + 1)), zI (H (l3 + 1) l8)]) zp120 rfl rfl rfl rfl ?_
        refine g_goto zp120 rfl ?_
        exact g_weak (ls' := [zR 32, zJ, zI l2, zR l3, zL (w64 (l4 + (H (l3 + 1) l8))), zJ, zI (w32 (l6 + (Int.tmod (H (l3 + 1) l8) 2))), zI (w32 (l7 + 1)), zI (w32 (l8 + 1)), zJ]) ⟨Or.inr rfl, Or.inr rfl, Or.inr rfl, Or.inr rfl, Or.inr rfl, Or.inr rfl, Or.inr rfl, Or.inr rfl, Or.inr rfl, Or.inl rfl, trivial⟩ h
theorem zp121 : zprog.getD 121 [] = zk121 := rfl
theorem x121_0 {w : zWt} {d : Nat} {H : zHt} {K : Int → zHt → Prop} {l1 : Int} {l2 : Int}
    (h : (0 ≤ l2 → zclI w d 106 [zR 32, zI l1] H (fun x3 H2 => (¬ x3 = 0 → zclR w d 108 [zR 32, zI l1] H2 (fun x6 H5 => (zisW x6) ∧ (l2 < (w32 ((H5 x6 1) - 1)) → (0 ≤ (w32 (l2 + 1)) ∧ (w32 (l2 + 1)) < 101) ∧ (0 ≤ l2 ∧ l2 < 101) ∧ ((if 1 < H5 (x6 + 1) l2 then H5 (x6 + 1) l2 else 1) ≠ 0) ∧ (∀ v11 : Int, v11 = w32 (w64 (Int.tdiv (w64 (1000 * (H5 (x6 + 1) (w32 (l2 + 1))))) (if 1 < H5 (x6 + 1) l2 then H5 (x6 + 1) l2 else 1))) → zclI w d 39 [zR 32, zI v11] H5 (fun x13 H12 => K x13 H12))) ∧ ((w32 ((H5 x6 1) - 1)) ≤ l2 → zclI w d 13 [zR 32, zI 5] H5 (fun x15 H14 => K x15 H14)))) ∧ (x3 = 0 → zclI w d 13 [zR 32, zI 2] H2 (fun x17 H16 => K x17 H16)))) ∧ (l2 < 0 → zclI w d 13 [zR 32, zI 1] H (fun x19 H18 => K x19 H18))) :
    zclI w (d + 1) 121 [zR 32, zI l1, zI l2] H K := by
  show zgo w (d + 1) 121 0 [zR 32, zI l1, zI l2, zJ] [] H (zQI K)
  refine g_il zp121 rfl rfl rfl ?_
  refine g_if zp121 rfl rfl zc3 (fun c1 => ?_) (fun c1 => ?_)
  · replace h := h.1 c1
    refine g_al zp121 rfl rfl rfl (by decide) ?_
    refine g_il zp121 rfl rfl rfl ?_
    refine g_callI (as := [zR 32, zI l1]) (rest := []) zp121 rfl rfl (Nat.succ_pos _) rfl rfl (Nat.le_of_ble_eq_true rfl) (Nat.le_of_ble_eq_true rfl) rfl rfl h (fun x3 H2 h => ?_)
    refine g_if zp121 rfl rfl zc1 (fun c4 => ?_) (fun c4 => ?_)
    · replace h := h.1 c4
      refine g_al zp121 rfl rfl rfl (by decide) ?_
      refine g_il zp121 rfl rfl rfl ?_
      refine g_callR (as := [zR 32, zI l1]) (rest := []) zp121 rfl rfl (Nat.succ_pos _) rfl rfl (Nat.le_of_ble_eq_true rfl) (Nat.le_of_ble_eq_true rfl) rfl rfl h (fun x6 H5 h => ?_)
      obtain ⟨fx6, h⟩ := h
      refine g_as (ls' := [zR 32, zI l1, zI l2, zR x6]) zp121 rfl rfl (Nat.le_of_ble_eq_true rfl) (Int.le_trans (by decide) (zW_ge fx6)) rfl ?_
      refine g_il zp121 rfl rfl rfl ?_
      refine g_al zp121 rfl rfl rfl (Int.le_trans (by decide) (zW_ge fx6)) ?_
      refine g_get (v := zI (H5 x6 1)) zp121 rfl rfl (zW_sh fx6) ⟨rfl, by decide, (zW_ge fx6)⟩ (congrArg (ztag _) (zM_no (zW_ge fx6) (zW_fx fx6 1 (by decide)))) ?_
      refine g_ic zp121 rfl rfl ?_
      refine g_ar (r := w32 ((H5 x6 1) - 1)) zp121 rfl rfl rfl ?_
      refine g_icmp zp121 rfl rfl zc2 (fun c7 => ?_) (fun c7 => ?_)
      · replace h := h.1 c7
        refine g_al zp121 rfl rfl rfl (by decide) ?_
        refine g_lc zp121 rfl rfl ?_
        refine g_al zp121 rfl rfl rfl (Int.le_trans (by decide) (zW_ge fx6)) ?_
        refine g_get (v := zR (x6 + 1)) zp121 rfl rfl (zW_sh fx6) ⟨rfl, by decide, (zW_ge fx6)⟩ (congrArg (ztag _) (zW_f0 fx6)) ?_
        refine g_il zp121 rfl rfl rfl ?_
        refine g_ic zp121 rfl rfl ?_
        refine g_ar (r := w32 (l2 + 1)) zp121 rfl rfl rfl ?_
        obtain ⟨c8, h⟩ := h
        refine g_ald (v := zI (H5 (x6 + 1) (w32 (l2 + 1)))) zp121 rfl rfl (zW_sh1 fx6) rfl c8 (congrArg (ztag _) (zM_no (zW_ge1 fx6) (zW_fx1 fx6 _))) ?_
        refine g_i2l zp121 rfl rfl ?_
        refine g_lar (r := w64 (1000 * (H5 (x6 + 1) (w32 (l2 + 1))))) zp121 rfl rfl rfl ?_
        refine g_ic zp121 rfl rfl ?_
        refine g_al zp121 rfl rfl rfl (Int.le_trans (by decide) (zW_ge fx6)) ?_
        refine g_get (v := zR (x6 + 1)) zp121 rfl rfl (zW_sh fx6) ⟨rfl, by decide, (zW_ge fx6)⟩ (congrArg (ztag _) (zW_f0 fx6)) ?_
        refine g_il zp121 rfl rfl rfl ?_
        obtain ⟨c9, h⟩ := h
        refine g_ald (v := zI (H5 (x6 + 1) l2)) zp121 rfl rfl (zW_sh1 fx6) rfl c9 (congrArg (ztag _) (zM_no (zW_ge1 fx6) (zW_fx1 fx6 _))) ?_
        refine g_mmax zp121 rfl rfl (Nat.le_of_ble_eq_true rfl) ?_
        refine g_i2l zp121 rfl rfl ?_
        obtain ⟨c10, h⟩ := h
        refine g_lar (r := w64 (Int.tdiv (w64 (1000 * (H5 (x6 + 1) (w32 (l2 + 1))))) (if 1 < H5 (x6 + 1) l2 then H5 (x6 + 1) l2 else 1))) zp121 rfl rfl (zr_ldiv c10) ?_
        refine g_l2i zp121 rfl rfl ?_
        let v11 : Int := w32 (w64 (Int.tdiv (w64 (1000 * (H5 (x6 + 1) (w32 (l2 + 1))))) (if 1 < H5 (x6 + 1) l2 then H5 (x6 + 1) l2 else 1)))
        replace h := h v11 rfl
        refine g_callI (as := [zR 32, zI v11]) (rest := []) zp121 rfl rfl (Nat.succ_pos _) rfl rfl (Nat.le_of_ble_eq_true rfl) (Nat.le_of_ble_eq_true rfl) rfl rfl h (fun x13 H12 h => ?_)
        exact g_ret zp121 rfl rfl ⟨_, rfl, h⟩
      · replace h := h.2 c7
        refine g_al zp121 rfl rfl rfl (by decide) ?_
        refine g_ic zp121 rfl rfl ?_
        refine g_callI (as := [zR 32, zI 5]) (rest := []) zp121 rfl rfl (Nat.succ_pos _) rfl rfl (Nat.le_of_ble_eq_true rfl) (Nat.le_of_ble_eq_true rfl) rfl rfl h (fun x15 H14 h => ?_)
        exact g_ret zp121 rfl rfl ⟨_, rfl, h⟩
    · replace h := h.2 c4
      refine g_al zp121 rfl rfl rfl (by decide) ?_
      refine g_ic zp121 rfl rfl ?_
      refine g_callI (as := [zR 32, zI 2]) (rest := []) zp121 rfl rfl (Nat.succ_pos _) rfl rfl (Nat.le_of_ble_eq_true rfl) (Nat.le_of_ble_eq_true rfl) rfl rfl h (fun x17 H16 h => ?_)
      exact g_ret zp121 rfl rfl ⟨_, rfl, h⟩
  · replace h := h.2 c1
    refine g_al zp121 rfl rfl rfl (by decide) ?_
    refine g_ic zp121 rfl rfl ?_
    refine g_callI (as := [zR 32, zI 1]) (rest := []) zp121 rfl rfl (Nat.succ_pos _) rfl rfl (Nat.le_of_ble_eq_true rfl) (Nat.le_of_ble_eq_true rfl) rfl rfl h (fun x19 H18 h => ?_)
    exact g_ret zp121 rfl rfl ⟨_, rfl, h⟩
theorem zp122 : zprog.getD 122 [] = zk122 := rfl
theorem x122_0 {w : zWt} {d : Nat} {H : zHt} {K : Int → zHt → Prop} {l1 : Int} {l2 : Int}
    (h : zclI w d 44 [zI l2, zI 3] H (fun x2 H1 => (¬ x2 = 0 → zclI w d 106 [zR 32, zI l1] H1 (fun x5 H4 => (¬ x5 = 0 → zclR w d 108 [zR 32, zI l1] H4 (fun x8 H7 => (zisW x8) ∧ (l2 < 0 ∨ 3 ≤ l2 → zclI w d 126 [zR x8] H7 (fun x10 H9 => zclI w d 39 [zR 32, zI x10] H9 (fun x12 H11 => K x12 H11))) ∧ (l2 = 0 → zclI w d 123 [zR x8] H7 (fun x14 H13 => zclI w d 39 [zR 32, zI x14] H13 (fun x16 H15 => K x16 H15))) ∧ (l2 = 1 → zclI w d 124 [zR 32, zR x8] H7 (fun x18 H17 => zclI w d 39 [zR 32, zI x18] H17 (fun x20 H19 => K x20 H19))) ∧ (l2 = 2 → zclI w d 125 [zR 32, zR x8] H7 (fun x22 H21 => (¬ x22 = (-1) → zclI w d 39 [zR 32, zI x22] H21 (fun x25 H24 => K x25 H24)) ∧ (x22 = (-1) → zclI w d 13 [zR 32, zI 5] H21 (fun x27 H26 => K x27 H26)))))) ∧ (x5 = 0 → zclI w d 13 [zR 32, zI 2] H4 (fun x29 H28 => K x29 H28)))) ∧ (x2 = 0 → zclI w d 13 [zR 32, zI 1] H1 (fun x31 H30 => K x31 H30)))) :
    zclI w (d + 1) 122 [zR 32, zI l1, zI l2] H K := by
  show zgo w (d + 1) 122 0 [zR 32, zI l1, zI l2, zJ, zJ] [] H (zQI K)
  refine g_il zp122 rfl rfl rfl ?_
  refine g_ic zp122 rfl rfl ?_
  refine g_callI (as := [zI l2, zI 3]) (rest := []) zp122 rfl rfl (Nat.succ_pos _) rfl rfl (Nat.le_of_ble_eq_true rfl) (Nat.le_of_ble_eq_true rfl) rfl rfl h (fun x2 H1 h => ?_)
  refine g_if zp122 rfl rfl zc1 (fun c3 => ?_) (fun c3 => ?_)
  · replace h := h.1 c3
    refine g_al zp122 rfl rfl rfl (by decide) ?_
    refine g_il zp122 rfl rfl rfl ?_
    refine g_callI (as := [zR 32, zI l1]) (rest := []) zp122 rfl rfl (Nat.succ_pos _) rfl rfl (Nat.le_of_ble_eq_true rfl) (Nat.le_of_ble_eq_true rfl) rfl rfl h (fun x5 H4 h => ?_)
    refine g_if zp122 rfl rfl zc1 (fun c6 => ?_) (fun c6 => ?_)
    · replace h := h.1 c6
      refine g_al zp122 rfl rfl rfl (by decide) ?_
      refine g_il zp122 rfl rfl rfl ?_
      refine g_callR (as := [zR 32, zI l1]) (rest := []) zp122 rfl rfl (Nat.succ_pos _) rfl rfl (Nat.le_of_ble_eq_true rfl) (Nat.le_of_ble_eq_true rfl) rfl rfl h (fun x8 H7 h => ?_)
      obtain ⟨fx8, h⟩ := h
      refine g_as (ls' := [zR 32, zI l1, zI l2, zR x8, zJ]) zp122 rfl rfl (Nat.le_of_ble_eq_true rfl) (Int.le_trans (by decide) (zW_ge fx8)) rfl ?_
      refine g_il zp122 rfl rfl rfl ?_
      rcases Classical.em (l2 < 0 ∨ 3 ≤ l2) with c | c
      · refine g_tabO zp122 rfl c ?_
        replace h := h.1 c
        refine g_al zp122 rfl rfl rfl (by decide) ?_
        refine g_al zp122 rfl rfl rfl (Int.le_trans (by decide) (zW_ge fx8)) ?_
        refine g_callI (as := [zR x8]) (rest := [zR 32]) zp122 rfl rfl (Nat.succ_pos _) rfl rfl (Nat.le_of_ble_eq_true rfl) (Nat.le_of_ble_eq_true rfl) rfl rfl h (fun x10 H9 h => ?_)
        refine g_callI (as := [zR 32, zI x10]) (rest := []) zp122 rfl rfl (Nat.succ_pos _) rfl rfl (Nat.le_of_ble_eq_true rfl) (Nat.le_of_ble_eq_true rfl) rfl rfl h (fun x12 H11 h => ?_)
        exact g_ret zp122 rfl rfl ⟨_, rfl, h⟩
      · replace h := h.2
        have hh : l2 = 0 ∨ l2 = 1 ∨ l2 = 2 := by omega
        rcases hh with c | c | c
        · replace h := h.1 c
          refine g_tabE (z := 0) zp122 rfl c (by decide) rfl ?_
          refine g_al zp122 rfl rfl rfl (by decide) ?_
          refine g_al zp122 rfl rfl rfl (Int.le_trans (by decide) (zW_ge fx8)) ?_
          refine g_callI (as := [zR x8]) (rest := [zR 32]) zp122 rfl rfl (Nat.succ_pos _) rfl rfl (Nat.le_of_ble_eq_true rfl) (Nat.le_of_ble_eq_true rfl) rfl rfl h (fun x14 H13 h => ?_)
          refine g_callI (as := [zR 32, zI x14]) (rest := []) zp122 rfl rfl (Nat.succ_pos _) rfl rfl (Nat.le_of_ble_eq_true rfl) (Nat.le_of_ble_eq_true rfl) rfl rfl h (fun x16 H15 h => ?_)
          exact g_ret zp122 rfl rfl ⟨_, rfl, h⟩
        · replace h := h.2.1 c
          refine g_tabE (z := 1) zp122 rfl c (by decide) rfl ?_
          refine g_al zp122 rfl rfl rfl (by decide) ?_
          refine g_al zp122 rfl rfl rfl (by decide) ?_
          refine g_al zp122 rfl rfl rfl (Int.le_trans (by decide) (zW_ge fx8)) ?_
          refine g_callI (as := [zR 32, zR x8]) (rest := [zR 32]) zp122 rfl rfl (Nat.succ_pos _) rfl rfl (Nat.le_of_ble_eq_true rfl) (Nat.le_of_ble_eq_true rfl) rfl rfl h (fun x18 H17 h => ?_)
          refine g_callI (as := [zR 32, zI x18]) (rest := []) zp122 rfl rfl (Nat.succ_pos _) rfl rfl (Nat.le_of_ble_eq_true rfl) (Nat.le_of_ble_eq_true rfl) rfl rfl h (fun x20 H19 h => ?_)
          exact g_ret zp122 rfl rfl ⟨_, rfl, h⟩
        · replace h := h.2.2 c
          refine g_tabE (z := 2) zp122 rfl c (by decide) rfl ?_
          refine g_al zp122 rfl rfl rfl (by decide) ?_
          refine g_al zp122 rfl rfl rfl (Int.le_trans (by decide) (zW_ge fx8)) ?_
          refine g_callI (as := [zR 32, zR x8]) (rest := []) zp122 rfl rfl (Nat.succ_pos _) rfl rfl (Nat.le_of_ble_eq_true rfl) (Nat.le_of_ble_eq_true rfl) rfl rfl h (fun x22 H21 h => ?_)
          refine g_is (ls' := [zR 32, zI l1, zI l2, zR x8, zI x22]) zp122 rfl rfl (Nat.le_of_ble_eq_true rfl) rfl ?_
          refine g_il zp122 rfl rfl rfl ?_
          refine g_ic zp122 rfl rfl ?_
          refine g_icmp zp122 rfl rfl zc1 (fun c23 => ?_) (fun c23 => ?_)
          · replace h := h.1 c23
            refine g_al zp122 rfl rfl rfl (by decide) ?_
            refine g_il zp122 rfl rfl rfl ?_
            refine g_callI (as := [zR 32, zI x22]) (rest := []) zp122 rfl rfl (Nat.succ_pos _) rfl rfl (Nat.le_of_ble_eq_true rfl) (Nat.le_of_ble_eq_true rfl) rfl rfl h (fun x25 H24 h => ?_)
            exact g_ret zp122 rfl rfl ⟨_, rfl, h⟩
          · replace h := h.2 c23
            refine g_al zp122 rfl rfl rfl (by decide) ?_
            refine g_ic zp122 rfl rfl ?_
            refine g_callI (as := [zR 32, zI 5]) (rest := []) zp122 rfl rfl (Nat.succ_pos _) rfl rfl (Nat.le_of_ble_eq_true rfl) (Nat.le_of_ble_eq_true rfl) rfl rfl h (fun x27 H26 h => ?_)
            refine g_goto zp122 rfl ?_
            exact g_ret zp122 rfl rfl ⟨_, rfl, h⟩
    · replace h := h.2 c6
      refine g_al zp122 rfl rfl rfl (by decide) ?_
      refine g_ic zp122 rfl rfl ?_
      refine g_callI (as := [zR 32, zI 2]) (rest := []) zp122 rfl rfl (Nat.succ_pos _) rfl rfl (Nat.le_of_ble_eq_true rfl) (Nat.le_of_ble_eq_true rfl) rfl rfl h (fun x29 H28 h => ?_)
      exact g_ret zp122 rfl rfl ⟨_, rfl, h⟩
  · replace h := h.2 c3
    refine g_al zp122 rfl rfl rfl (by decide) ?_
    refine g_ic zp122 rfl rfl ?_
    refine g_callI (as := [zR 32, zI 1]) (rest := []) zp122 rfl rfl (Nat.succ_pos _) rfl rfl (Nat.le_of_ble_eq_true rfl) (Nat.le_of_ble_eq_true rfl) rfl rfl h (fun x31 H30 h => ?_)
    exact g_ret zp122 rfl rfl ⟨_, rfl, h⟩
theorem zp123 : zprog.getD 123 [] = zk123 := rfl
theorem x123_0 {w : zWt} {d : Nat} {H : zHt} {K : Int → zHt → Prop} {l0 : Int} (hl0 : zisW l0)
    (h : zgo w (d + 1) 123 4 [zR l0, zI 0, zI 1, zJ] [] H (zQI K)) :
    zclI w (d + 1) 123 [zR l0] H K := by
  show zgo w (d + 1) 123 0 [zR l0, zJ, zJ, zJ] [] H (zQI K)
  refine g_ic zp123 rfl rfl ?_
  refine g_is (ls' := [zR l0, zI 0, zJ, zJ]) zp123 rfl rfl (Nat.le_of_ble_eq_true rfl) rfl ?_
  refine g_ic zp123 rfl rfl ?_
  refine g_is (ls' := [zR l0, zI 0, zI 1, zJ]) zp123 rfl rfl (Nat.le_of_ble_eq_true rfl) rfl ?_
  exact g_weak (ls' := [zR l0, zI 0, zI 1, zJ]) ⟨Or.inr rfl, Or.inr rfl, Or.inr rfl, Or.inr rfl, trivial⟩ h
theorem x123_4 {w : zWt} {d : Nat} {H : zHt} {K : Int → zHt → Prop} {l0 : Int} (hl0 : zisW l0) {l1 : Int} {l2 : Int}
    (h : ((H l0 1) ≤ l2 → K l1 H) ∧ (l2 < (H l0 1) → (0 ≤ l2 ∧ l2 < 101) ∧ zclI w d 64 [zI (H (l0 + 1) l2)] H (fun x4 H3 => (x4 = 0 → zgo w (d + 1) 123 4 [zR l0, zI (w32 (l1 + 0)), zI (w32 (l2 + 1)), zJ] [] H3 (zQI K)) ∧ (¬ x4 = 0 → (0 ≤ (w32 (l2 - 1)) ∧ (w32 (l2 - 1)) < 101) ∧ zclI w d 64 [zI (H3 (l0 + 1) (w32 (l2 - 1)))] H3 (fun x8 H7 => (¬ x4 = x8 → zgo w (d + 1) 123 4 [zR l0, zI (w32 (l1 + 0)), zI (w32 (l2 + 1)), zJ] [] H7 (zQI K)) ∧ (x4 = x8 → zgo w (d + 1) 123 4 [zR l0, zI (w32 (l1 + 1)), zI (w32 (l2 + 1)), zJ] [] H7 (zQI K))))))) :
    zgo w (d + 1) 123 4 [zR l0, zI l1, zI l2, zJ] [] H (zQI K) := by
  refine g_il zp123 rfl rfl rfl ?_
  refine g_al zp123 rfl rfl rfl (Int.le_trans (by decide) (zW_ge hl0)) ?_
  refine g_get (v := zI (H l0 1)) zp123 rfl rfl (zW_sh hl0) ⟨rfl, by decide, (zW_ge hl0)⟩ (congrArg (ztag _) (zM_no (zW_ge hl0) (zW_fx hl0 1 (by decide)))) ?_
  refine g_icmp zp123 rfl rfl zc3 (fun c1 => ?_) (fun c1 => ?_)
  · replace h := h.1 c1
    refine g_il zp123 rfl rfl rfl ?_
    exact g_ret zp123 rfl rfl ⟨_, rfl, h⟩
  · replace h := h.2 c1
    refine g_al zp123 rfl rfl rfl (Int.le_trans (by decide) (zW_ge hl0)) ?_
    refine g_get (v := zR (l0 + 1)) zp123 rfl rfl (zW_sh hl0) ⟨rfl, by decide, (zW_ge hl0)⟩ (congrArg (ztag _) (zW_f0 hl0)) ?_
    refine g_il zp123 rfl rfl rfl ?_
    obtain ⟨c2, h⟩ := h
    refine g_ald (v := zI (H (l0 + 1) l2)) zp123 rfl rfl (zW_sh1 hl0) rfl c2 (congrArg (ztag _) (zM_no (zW_ge1 hl0) (zW_fx1 hl0 _))) ?_
    refine g_callI (as := [zI (H (l0 + 1) l2)]) (rest := []) zp123 rfl rfl (Nat.succ_pos _) rfl rfl (Nat.le_of_ble_eq_true rfl) (Nat.le_of_ble_eq_true rfl) rfl rfl h (fun x4 H3 h => ?_)
    refine g_is (ls' := [zR l0, zI l1, zI l2, zI x4]) zp123 rfl rfl (Nat.le_of_ble_eq_true rfl) rfl ?_
    refine g_il zp123 rfl rfl rfl ?_
    refine g_il zp123 rfl rfl rfl ?_
    refine g_if zp123 rfl rfl zc0 (fun c5 => ?_) (fun c5 => ?_)
    · replace h := h.1 c5
      refine g_ic zp123 rfl rfl ?_
      refine g_ar (r := w32 (l1 + 0)) zp123 rfl rfl rfl ?_
      refine g_is (ls' := [zR l0, zI (w32 (l1 + 0)), zI l2, zI x4]) zp123 rfl rfl (Nat.le_of_ble_eq_true rfl) rfl ?_
      refine g_inc (ls' := [zR l0, zI (w32 (l1 + 0)), zI (w32 (l2 + 1)), zI x4]) zp123 rfl rfl rfl rfl ?_
      refine g_goto zp123 rfl ?_
      exact g_weak (ls' := [zR l0, zI (w32 (l1 + 0)), zI (w32 (l2 + 1)), zJ]) ⟨Or.inr rfl, Or.inr rfl, Or.inr rfl, Or.inl rfl, trivial⟩ h
    · replace h := h.2 c5
      refine g_il zp123 rfl rfl rfl ?_
      refine g_al zp123 rfl rfl rfl (Int.le_trans (by decide) (zW_ge hl0)) ?_
      refine g_get (v := zR (l0 + 1)) zp123 rfl rfl (zW_sh hl0) ⟨rfl, by decide, (zW_ge hl0)⟩ (congrArg (ztag _) (zW_f0 hl0)) ?_
      refine g_il zp123 rfl rfl rfl ?_
      refine g_ic zp123 rfl rfl ?_
      refine g_ar (r := w32 (l2 - 1)) zp123 rfl rfl rfl ?_
      obtain ⟨c6, h⟩ := h
      refine g_ald (v := zI (H3 (l0 + 1) (w32 (l2 - 1)))) zp123 rfl rfl (zW_sh1 hl0) rfl c6 (congrArg (ztag _) (zM_no (zW_ge1 hl0) (zW_fx1 hl0 _))) ?_
      refine g_callI (as := [zI (H3 (l0 + 1) (w32 (l2 - 1)))]) (rest := [zI x4, zI l1]) zp123 rfl rfl (Nat.succ_pos _) rfl rfl (Nat.le_of_ble_eq_true rfl) (Nat.le_of_ble_eq_true rfl) rfl rfl h (fun x8 H7 h => ?_)
      refine g_icmp zp123 rfl rfl zc1 (fun c9 => ?_) (fun c9 => ?_)
      · replace h := h.1 c9
        refine g_ic zp123 rfl rfl ?_
        refine g_ar (r := w32 (l1 + 0)) zp123 rfl rfl rfl ?_
        refine g_is (ls' := [zR l0, zI (w32 (l1 + 0)), zI l2, zI x4]) zp123 rfl rfl (Nat.le_of_ble_eq_true rfl) rfl ?_
        refine g_inc (ls' := [zR l0, zI (w32 (l1 + 0)), zI (w32 (l2 + 1)), zI x4]) zp123 rfl rfl rfl rfl ?_
        refine g_goto zp123 rfl ?_
        exact g_weak (ls' := [zR l0, zI (w32 (l1 + 0)), zI (w32 (l2 + 1)), zJ]) ⟨Or.inr rfl, Or.inr rfl, Or.inr rfl, Or.inl rfl, trivial⟩ h
      · replace h := h.2 c9
        refine g_ic zp123 rfl rfl ?_
        refine g_goto zp123 rfl ?_
        refine g_ar (r := w32 (l1 + 1)) zp123 rfl rfl rfl ?_
        refine g_is (ls' := [zR l0, zI (w32 (l1 + 1)), zI l2, zI x4]) zp123 rfl rfl (Nat.le_of_ble_eq_true rfl) rfl ?_
        refine g_inc (ls' := [zR l0, zI (w32 (l1 + 1)), zI (w32 (l2 + 1)), zI x4]) zp123 rfl rfl rfl rfl ?_
        refine g_goto zp123 rfl ?_
        exact g_weak (ls' := [zR l0, zI (w32 (l1 + 1)), zI (w32 (l2 + 1)), zJ]) ⟨Or.inr rfl, Or.inr rfl, Or.inr rfl, Or.inl rfl, trivial⟩ h
theorem zp124 : zprog.getD 124 [] = zk124 := rfl
theorem x124_0 {w : zWt} {d : Nat} {H : zHt} {K : Int → zHt → Prop} {l1 : Int} (hl1 : zisW l1)
    (h : zgo w (d + 1) 124 4 [zR 32, zR l1, zI 0, zI 0] [] H (zQI K)) :
    zclI w (d + 1) 124 [zR 32, zR l1] H K := by
  show zgo w (d + 1) 124 0 [zR 32, zR l1, zJ, zJ] [] H (zQI K)
  refine g_ic zp124 rfl rfl ?_
  refine g_is (ls' := [zR 32, zR l1, zI 0, zJ]) zp124 rfl rfl (Nat.le_of_ble_eq_true rfl) rfl ?_
  refine g_ic zp124 rfl rfl ?_
  refine g_is (ls' := [zR 32, zR l1, zI 0, zI 0]) zp124 rfl rfl (Nat.le_of_ble_eq_true rfl) rfl ?_
  exact g_weak (ls' := [zR 32, zR l1, zI 0, zI 0]) ⟨Or.inr rfl, Or.inr rfl, Or.inr rfl, Or.inr rfl, trivial⟩ h
theorem x124_4 {w : zWt} {d : Nat} {H : zHt} {K : Int → zHt → Prop} {l1 : Int} (hl1 : zisW l1) {l2 : Int} {l3 : Int}
    (h : ((H l1 1) ≤ l3 → K l2 H) ∧ (l3 < (H l1 1) → (0 ≤ l3 ∧ l3 < 101) ∧ zclI w d 68 [zR 32, zI (H (l1 + 1) l3)] H (fun x4 H3 => (x4 = 0 → zgo w (d + 1) 124 4 [zR 32, zR l1, zI (w32 (l2 + 0)), zI (w32 (l3 + 1))] [] H3 (zQI K)) ∧ (¬ x4 = 0 → zgo w (d + 1) 124 4 [zR 32, zR l1, zI (w32 (l2 + 1)), zI (w32 (l3 + 1))] [] H3 (zQI K))))) :
    zgo w (d + 1) 124 4 [zR 32, zR l1, zI l2, zI l3] [] H (zQI K) := by
  refine g_il zp124 rfl rfl rfl ?_
  refine g_al zp124 rfl rfl rfl (Int.le_trans (by decide) (zW_ge hl1)) ?_
  refine g_get (v := zI (H l1 1)) zp124 rfl rfl (zW_sh hl1) ⟨rfl, by decide, (zW_ge hl1)⟩ (congrArg (ztag _) (zM_no (zW_ge hl1) (zW_fx hl1 1 (by decide)))) ?_
  refine g_icmp zp124 rfl rfl zc3 (fun c1 => ?_) (fun c1 => ?_)
  · replace h := h.1 c1
    refine g_il zp124 rfl rfl rfl ?_
    exact g_ret zp124 rfl rfl ⟨_, rfl, h⟩
  · replace h := h.2 c1
    refine g_il zp124 rfl rfl rfl ?_
    refine g_al zp124 rfl rfl rfl (by decide) ?_
    refine g_al zp124 rfl rfl rfl (Int.le_trans (by decide) (zW_ge hl1)) ?_
    refine g_get (v := zR (l1 + 1)) zp124 rfl rfl (zW_sh hl1) ⟨rfl, by decide, (zW_ge hl1)⟩ (congrArg (ztag _) (zW_f0 hl1)) ?_
    refine g_il zp124 rfl rfl rfl ?_
    obtain ⟨c2, h⟩ := h
    refine g_ald (v := zI (H (l1 + 1) l3)) zp124 rfl rfl (zW_sh1 hl1) rfl c2 (congrArg (ztag _) (zM_no (zW_ge1 hl1) (zW_fx1 hl1 _))) ?_
    refine g_callI (as := [zR 32, zI (H (l1 + 1) l3)]) (rest := [zI l2]) zp124 rfl rfl (Nat.succ_pos _) rfl rfl (Nat.le_of_ble_eq_true rfl) (Nat.le_of_ble_eq_true rfl) rfl rfl h (fun x4 H3 h => ?_)
    refine g_if zp124 rfl rfl zc0 (fun c5 => ?_) (fun c5 => ?_)
    · replace h := h.1 c5
      refine g_ic zp124 rfl rfl ?_
      refine g_ar (r := w32 (l2 + 0)) zp124 rfl rfl rfl ?_
      refine g_is (ls' := [zR 32, zR l1, zI (w32 (l2 + 0)), zI l3]) zp124 rfl rfl (Nat.le_of_ble_eq_true rfl) rfl ?_
      refine g_inc (ls' := [zR 32, zR l1, zI (w32 (l2 + 0)), zI (w32 (l3 + 1))]) zp124 rfl rfl rfl rfl ?_
      refine g_goto zp124 rfl ?_
      exact g_weak (ls' := [zR 32, zR l1, zI (w32 (l2 + 0)), zI (w32 (l3 + 1))]) ⟨Or.inr rfl, Or.inr rfl, Or.inr rfl, Or.inr rfl, trivial⟩ h
    · replace h := h.2 c5
      refine g_ic zp124 rfl rfl ?_
      refine g_goto zp124 rfl ?_
      refine g_ar (r := w32 (l2 + 1)) zp124 rfl rfl rfl ?_
      refine g_is (ls' := [zR 32, zR l1, zI (w32 (l2 + 1)), zI l3]) zp124 rfl rfl (Nat.le_of_ble_eq_true rfl) rfl ?_
      refine g_inc (ls' := [zR 32, zR l1, zI (w32 (l2 + 1)), zI (w32 (l3 + 1))]) zp124 rfl rfl rfl rfl ?_
      refine g_goto zp124 rfl ?_
      exact g_weak (ls' := [zR 32, zR l1, zI (w32 (l2 + 1)), zI (w32 (l3 + 1))]) ⟨Or.inr rfl, Or.inr rfl, Or.inr rfl, Or.inr rfl, trivial⟩ h
theorem zp125 : zprog.getD 125 [] = zk125 := rfl
theorem x125_0 {w : zWt} {d : Nat} {H : zHt} {K : Int → zHt → Prop} {l1 : Int} (hl1 : zisW l1)
    (h : zgo w (d + 1) 125 2 [zR 32, zR l1, zI 0] [] H (zQI K)) :
    zclI w (d + 1) 125 [zR 32, zR l1] H K := by
  show zgo w (d + 1) 125 0 [zR 32, zR l1, zJ] [] H (zQI K)
  refine g_ic zp125 rfl rfl ?_
  refine g_is (ls' := [zR 32, zR l1, zI 0]) zp125 rfl rfl (Nat.le_of_ble_eq_true rfl) rfl ?_
  exact g_weak (ls' := [zR 32, zR l1, zI 0]) ⟨Or.inr rfl, Or.inr rfl, Or.inr rfl, trivial⟩ h
theorem x125_2 {w : zWt} {d : Nat} {H : zHt} {K : Int → zHt → Prop} {l1 : Int} (hl1 : zisW l1) {l2 : Int}
    (h : ((H l1 1) ≤ l2 → K (-1) H) ∧ (l2 < (H l1 1) → (0 ≤ l2 ∧ l2 < 101) ∧ zclI w d 68 [zR 32, zI (H (l1 + 1) l2)] H (fun x4 H3 => (x4 = 0 → zgo w (d + 1) 125 2 [zR 32, zR l1, zI (w32 (l2 + 1))] [] H3 (zQI K)) ∧ (¬ x4 = 0 → K l2 H3)))) :
    zgo w (d + 1) 125 2 [zR 32, zR l1, zI l2] [] H (zQI K) := by
  refine g_il zp125 rfl rfl rfl ?_
  refine g_al zp125 rfl rfl rfl (Int.le_trans (by decide) (zW_ge hl1)) ?_
  refine g_get (v := zI (H l1 1)) zp125 rfl rfl (zW_sh hl1) ⟨rfl, by decide, (zW_ge hl1)⟩ (congrArg (ztag _) (zM_no (zW_ge hl1) (zW_fx hl1 1 (by decide)))) ?_
  refine g_icmp zp125 rfl rfl zc3 (fun c1 => ?_) (fun c1 => ?_)
  · replace h := h.1 c1
    refine g_ic zp125 rfl rfl ?_
    exact g_ret zp125 rfl rfl ⟨_, rfl, h⟩
  · replace h := h.2 c1
    refine g_al zp125 rfl rfl rfl (by decide) ?_
    refine g_al zp125 rfl rfl rfl (Int.le_trans (by decide) (zW_ge hl1)) ?_
    refine g_get (v := zR (l1 + 1)) zp125 rfl rfl (zW_sh hl1) ⟨rfl, by decide, (zW_ge hl1)⟩ (congrArg (ztag _) (zW_f0 hl1)) ?_
    refine g_il zp125 rfl rfl rfl ?_
    obtain ⟨c2, h⟩ := h
    refine g_ald (v := zI (H (l1 + 1) l2)) zp125 rfl rfl (zW_sh1 hl1) rfl c2 (congrArg (ztag _) (zM_no (zW_ge1 hl1) (zW_fx1 hl1 _))) ?_
    refine g_callI (as := [zR 32, zI (H (l1 + 1) l2)]) (rest := []) zp125 rfl rfl (Nat.succ_pos _) rfl rfl (Nat.le_of_ble_eq_true rfl) (Nat.le_of_ble_eq_true rfl) rfl rfl h (fun x4 H3 h => ?_)
    refine g_if zp125 rfl rfl zc0 (fun c5 => ?_) (fun c5 => ?_)
    · replace h := h.1 c5
      refine g_inc (ls' := [zR 32, zR l1, zI (w32 (l2 + 1))]) zp125 rfl rfl rfl rfl ?_
      refine g_goto zp125 rfl ?_
      exact g_weak (ls' := [zR 32, zR l1, zI (w32 (l2 + 1))]) ⟨Or.inr rfl, Or.inr rfl, Or.inr rfl, trivial⟩ h
    · replace h := h.2 c5
      refine g_il zp125 rfl rfl rfl ?_
      exact g_ret zp125 rfl rfl ⟨_, rfl, h⟩
theorem zp126 : zprog.getD 126 [] = zk126 := rfl
theorem x126_0 {w : zWt} {d : Nat} {H : zHt} {K : Int → zHt → Prop} {l0 : Int} (hl0 : zisW l0)
    (h : zgo w (d + 1) 126 9 [zR l0, zI 0, zI 0, zI 0, zI 0, zJ] [] H (zQI K)) :
    zclI w (d + 1) 126 [zR l0] H K := by
  show zgo w (d + 1) 126 0 [zR l0, zJ, zJ, zJ, zJ, zJ] [] H (zQI K)
  refine g_ic zp126 rfl rfl ?_
  refine g_is (ls' := [zR l0, zI 0, zJ, zJ, zJ, zJ]) zp126 rfl rfl (Nat.le_of_ble_eq_true rfl) rfl ?_
  refine g_ic zp126 rfl rfl ?_
  refine g_is (ls' := [zR l0, zI 0, zI 0, zJ, zJ, zJ]) zp126 rfl rfl (Nat.le_of_ble_eq_true rfl) rfl ?_
  refine g_ic zp126 rfl rfl ?_
  refine g_is (ls' := [zR l0, zI 0, zI 0, zI 0, zJ, zJ]) zp126 rfl rfl (Nat.le_of_ble_eq_true rfl) rfl ?_
  refine g_ic zp126 rfl rfl ?_
  refine g_is (ls' := [zR l0, zI 0, zI 0, zI 0, zI 0, zJ]) zp126 rfl rfl (Nat.le_of_ble_eq_true rfl) rfl ?_
  exact g_weak (ls' := [zR l0, zI 0, zI 0, zI 0, zI 0, zJ]) ⟨Or.inr rfl, Or.inr rfl, Or.inr rfl, Or.inr rfl, Or.inr rfl, Or.inr rfl, trivial⟩ h
theorem x126_9 {w : zWt} {d : Nat} {H : zHt} {K : Int → zHt → Prop} {l0 : Int} (hl0 : zisW l0) {l1 : Int} {l2 : Int} {l3 : Int} {l4 : Int}
    (h : ((H l0 1) ≤ l4 → K l1 H) ∧ (l4 < (H l0 1) → (0 ≤ l4 ∧ l4 < 101) ∧ zclI w d 64 [zI (H (l0 + 1) l4)] H (fun x4 H3 => (¬ x4 = 0 → (¬ x4 = l3 → zgo w (d + 1) 126 9 [zR l0, zI (if l1 < 1 then 1 else l1), zI 1, zI x4, zI (w32 (l4 + 1)), zJ] [] H3 (zQI K)) ∧ (x4 = l3 → zgo w (d + 1) 126 9 [zR l0, zI (if l1 < w32 (l2 + 1) then w32 (l2 + 1) else l1), zI (w32 (l2 + 1)), zI x4, zI (w32 (l4 + 1)), zJ] [] H3 (zQI K))) ∧ (x4 = 0 → zgo w (d + 1) 126 9 [zR l0, zI (if l1 < 0 then 0 else l1), zI 0, zI x4, zI (w32 (l4 + 1)), zJ] [] H3 (zQI K))))) :
    zgo w (d + 1) 126 9 [zR l0, zI l1, zI l2, zI l3, zI l4, zJ] [] H (zQI K) := by
  refine g_il zp126 rfl rfl rfl ?_
  refine g_al zp126 rfl rfl rfl (Int.le_trans (by decide) (zW_ge hl0)) ?_
  refine g_get (v := zI (H l0 1)) zp126 rfl rfl (zW_sh hl0) ⟨rfl, by decide, (zW_ge hl0)⟩ (congrArg (ztag _) (zM_no (zW_ge hl0) (zW_fx hl0 1 (by decide)))) ?_
  refine g_icmp zp126 rfl rfl zc3 (fun c1 => ?_) (fun c1 => ?_)
  · replace h := h.1 c1
    refine g_il zp126 rfl rfl rfl ?_
    exact g_ret zp126 rfl rfl ⟨_, rfl, h⟩
  · replace h := h.2 c1
    refine g_al zp126 rfl rfl rfl (Int.le_trans (by decide) (zW_ge hl0)) ?_
    refine g_get (v := zR (l0 + 1)) zp126 rfl rfl (zW_sh hl0) ⟨rfl, by decide, (zW_ge hl0)⟩ (congrArg (ztag _) (zW_f0 hl0)) ?_
    refine g_il zp126 rfl rfl rfl ?_
    obtain ⟨c2, h⟩ := h
    refine g_ald (v := zI (H (l0 + 1) l4)) zp126 rfl rfl (zW_sh1 hl0) rfl c2 (congrArg (ztag _) (zM_no (zW_ge1 hl0) (zW_fx1 hl0 _))) ?_
    refine g_callI (as := [zI (H (l0 + 1) l4)]) (rest := []) zp126 rfl rfl (Nat.succ_pos _) rfl rfl (Nat.le_of_ble_eq_true rfl) (Nat.le_of_ble_eq_true rfl) rfl rfl h (fun x4 H3 h => ?_)
    refine g_is (ls' := [zR l0, zI l1, zI l2, zI l3, zI l4, zI x4]) zp126 rfl rfl (Nat.le_of_ble_eq_true rfl) rfl ?_
    refine g_il zp126 rfl rfl rfl ?_
    refine g_if zp126 rfl rfl zc1 (fun c5 => ?_) (fun c5 => ?_)
    · replace h := h.1 c5
      refine g_il zp126 rfl rfl rfl ?_
      refine g_il zp126 rfl rfl rfl ?_
      refine g_icmp zp126 rfl rfl zc1 (fun c6 => ?_) (fun c6 => ?_)
      · replace h := h.1 c6
        refine g_ic zp126 rfl rfl ?_
        refine g_is (ls' := [zR l0, zI l1, zI 1, zI l3, zI l4, zI x4]) zp126 rfl rfl (Nat.le_of_ble_eq_true rfl) rfl ?_
        refine g_il zp126 rfl rfl rfl ?_
        refine g_is (ls' := [zR l0, zI l1, zI 1, zI x4, zI l4, zI x4]) zp126 rfl rfl (Nat.le_of_ble_eq_true rfl) rfl ?_
        refine g_il zp126 rfl rfl rfl ?_
        refine g_il zp126 rfl rfl rfl ?_
        refine g_mmax zp126 rfl rfl (Nat.le_of_ble_eq_true rfl) ?_
        refine g_is (ls' := [zR l0, zI (if l1 < 1 then 1 else l1), zI 1, zI x4, zI l4, zI x4]) zp126 rfl rfl (Nat.le_of_ble_eq_true rfl) rfl ?_
        refine g_inc (ls' := [zR l0, zI (if l1 < 1 then 1 else l1), zI 1, zI x4, zI (w32 (l4 + 1)), zI x4]) zp126 rfl rfl rfl rfl ?_
        refine g_goto zp126 rfl ?_
        exact g_weak (ls' := [zR l0, zI (if l1 < 1 then 1 else l1), zI 1, zI x4, zI (w32 (l4 + 1)), zJ]) ⟨Or.inr rfl, Or.inr rfl, Or.inr rfl, Or.inr rfl, Or.inr rfl, Or.inl rfl, trivial⟩ h
      · replace h := h.2 c6
        refine g_il zp126 rfl rfl rfl ?_
        refine g_ic zp126 rfl rfl ?_
        refine g_ar (r := w32 (l2 + 1)) zp126 rfl rfl rfl ?_
        refine g_goto zp126 rfl ?_
        refine g_is (ls' := [zR l0, zI l1, zI (w32 (l2 + 1)), zI l3, zI l4, zI x4]) zp126 rfl rfl (Nat.le_of_ble_eq_true rfl) rfl ?_
        refine g_il zp126 rfl rfl rfl ?_
        refine g_is (ls' := [zR l0, zI l1, zI (w32 (l2 + 1)), zI x4, zI l4, zI x4]) zp126 rfl rfl (Nat.le_of_ble_eq_true rfl) rfl ?_
        refine g_il zp126 rfl rfl rfl ?_
        refine g_il zp126 rfl rfl rfl ?_
        refine g_mmax zp126 rfl rfl (Nat.le_of_ble_eq_true rfl) ?_
        refine g_is (ls' := [zR l0, zI (if l1 < w32 (l2 + 1) then w32 (l2 + 1) else l1), zI (w32 (l2 + 1)), zI x4, zI l4, zI x4]) zp126 rfl rfl (Nat.le_of_ble_eq_true rfl) rfl ?_
        refine g_inc (ls' := [zR l0, zI (if l1 < w32 (l2 + 1) then w32 (l2 + 1) else l1), zI (w32 (l2 + 1)), zI x4, zI (w32 (l4 + 1)), zI x4]) zp126 rfl rfl rfl rfl ?_
        refine g_goto zp126 rfl ?_
        exact g_weak (ls' := [zR l0, zI (if l1 < w32 (l2 + 1) then w32 (l2 + 1) else l1), zI (w32 (l2 + 1)), zI x4, zI (w32 (l4 + 1)), zJ]) ⟨Or.inr rfl, Or.inr rfl, Or.inr rfl, Or.inr rfl, Or.inr rfl, Or.inl rfl, trivial⟩ h
    · replace h := h.2 c5
      refine g_ic zp126 rfl rfl ?_
      refine g_is (ls' := [zR l0, zI l1, zI 0, zI l3, zI l4, zI x4]) zp126 rfl rfl (Nat.le_of_ble_eq_true rfl) rfl ?_
      refine g_goto zp126 rfl ?_
      refine g_il zp126 rfl rfl rfl ?_
      refine g_is (ls' := [zR l0, zI l1, zI 0, zI x4, zI l4, zI x4]) zp126 rfl rfl (Nat.le_of_ble_eq_true rfl) rfl ?_
      refine g_il zp126 rfl rfl rfl ?_
      refine g_il zp126 rfl rfl rfl ?_
      refine g_mmax zp126 rfl rfl (Nat.le_of_ble_eq_true rfl) ?_
      refine g_is (ls' := [zR l0, zI (if l1 < 0 then 0 else l1), zI 0, zI x4, zI l4, zI x4]) zp126 rfl rfl (Nat.le_of_ble_eq_true rfl) rfl ?_
      refine g_inc (ls' := [zR l0, zI (if l1 < 0 then 0 else l1), zI 0, zI x4, zI (w32 (l4 + 1)), zI x4]) zp126 rfl rfl rfl rfl ?_
      refine g_goto zp126 rfl ?_
      exact g_weak (ls' := [zR l0, zI (if l1 < 0 then 0 else l1), zI 0, zI x4, zI (w32 (l4 + 1)), zJ]) ⟨Or.inr rfl, Or.inr rfl, Or.inr rfl, Or.inr rfl, Or.inr rfl, Or.inl rfl, trivial⟩ h
theorem zp127 : zprog.getD 127 [] = zk127 := rfl
theorem x127_0 {w : zWt} {d : Nat} {H : zHt} {K : Int → zHt → Prop} {l1 : Int} {l2 : Int}
    (h : zclI w d 44 [zI l2, zI 2] H (fun x2 H1 => (¬ x2 = 0 → zclI w d 106 [zR 32, zI l1] H1 (fun x5 H4 => (¬ x5 = 0 → zclR w d 108 [zR 32, zI l1] H4 (fun x8 H7 => (zisW x8) ∧ zclI w d 128 [zR 32, zR x8] H7 (fun x10 H9 => zgo w (d + 1) 127 50 [zR 32, zJ, zI l2, zI x10, zI 0, zI 0, zI 0, zI 0, zJ] [] H9 (zQI K)))) ∧ (x5 = 0 → zclI w d 13 [zR 32, zI 2] H4 (fun x12 H11 => K x12 H11)))) ∧ (x2 = 0 → zclI w d 13 [zR 32, zI 1] H1 (fun x14 H13 => K x14 H13)))) :
    zclI w (d + 1) 127 [zR 32, zI l1, zI l2] H K := by
  show zgo w (d + 1) 127 0 [zR 32, zI l1, zI l2, zJ, zJ, zJ, zJ, zJ, zJ] [] H (zQI K)
  refine g_il zp127 rfl rfl rfl ?_
  refine g_ic zp127 rfl rfl ?_
  refine g_callI (as := [zI l2, zI 2]) (rest := []) zp127 rfl rfl (Nat.succ_pos _) rfl rfl (Nat.le_of_ble_eq_true rfl) (Nat.le_of_ble_eq_true rfl) rfl rfl h (fun x2 H1 h => ?_)
  refine g_if zp127 rfl rfl zc1 (fun c3 => ?_) (fun c3 => ?_)
  · replace h := h.1 c3
    refine g_al zp127 rfl rfl rfl (by decide) ?_
    refine g_il zp127 rfl rfl rfl ?_
    refine g_callI (as := [zR 32, zI l1]) (rest := []) zp127 rfl rfl (Nat.succ_pos _) rfl rfl (Nat.le_of_ble_eq_true rfl) (Nat.le_of_ble_eq_true rfl) rfl rfl h (fun x5 H4 h => ?_)
    refine g_if zp127 rfl rfl zc1 (fun c6 => ?_) (fun c6 => ?_)
    · replace h := h.1 c6
      refine g_al zp127 rfl rfl rfl (by decide) ?_
      refine g_al zp127 rfl rfl rfl (by decide) ?_
      refine g_il zp127 rfl rfl rfl ?_
      refine g_callR (as := [zR 32, zI l1]) (rest := [zR 32]) zp127 rfl rfl (Nat.succ_pos _) rfl rfl (Nat.le_of_ble_eq_true rfl) (Nat.le_of_ble_eq_true rfl) rfl rfl h (fun x8 H7 h => ?_)
      obtain ⟨fx8, h⟩ := h
      refine g_callI (as := [zR 32, zR x8]) (rest := []) zp127 rfl rfl (Nat.succ_pos _) rfl rfl (Nat.le_of_ble_eq_true rfl) (Nat.le_of_ble_eq_true rfl) rfl rfl h (fun x10 H9 h => ?_)
      refine g_is (ls' := [zR 32, zI l1, zI l2, zI x10, zJ, zJ, zJ, zJ, zJ]) zp127 rfl rfl (Nat.le_of_ble_eq_true rfl) rfl ?_
      refine g_ic zp127 rfl rfl ?_
      refine g_is (ls' := [zR 32, zI l1, zI l2, zI x10, zI 0, zJ, zJ, zJ, zJ]) zp127 rfl rfl (Nat.le_of_ble_eq_true rfl) rfl ?_
      refine g_ic zp127 rfl rfl ?_
      refine g_is (ls' := [zR 32, zI l1, zI l2, zI x10, zI 0, zI 0, zJ, zJ, zJ]) zp127 rfl rfl (Nat.le_of_ble_eq_true rfl) rfl ?_
      refine g_ic zp127 rfl rfl ?_
      refine g_is (ls' := [zR 32, zI l1, zI l2, zI x10, zI 0, zI 0, zI 0, zJ, zJ]) zp127 rfl rfl (Nat.le_of_ble_eq_true rfl) rfl ?_
      refine g_ic zp127 rfl rfl ?_
      refine g_is (ls' := [zR 32, zI l1, zI l2, zI x10, zI 0, zI 0, zI 0, zI 0, zJ]) zp127 rfl rfl (Nat.le_of_ble_eq_true rfl) rfl ?_
      exact g_weak (ls' := [zR 32, zJ, zI l2, zI x10, zI 0, zI 0, zI 0, zI 0, zJ]) ⟨Or.inr rfl, Or.inl rfl, Or.inr rfl, Or.inr rfl, Or.inr rfl, Or.inr rfl, Or.inr rfl, Or.inr rfl, Or.inr rfl, trivial⟩ h
    · replace h := h.2 c6
      refine g_al zp127 rfl rfl rfl (by decide) ?_
      refine g_ic zp127 rfl rfl ?_
      refine g_callI (as := [zR 32, zI 2]) (rest := []) zp127 rfl rfl (Nat.succ_pos _) rfl rfl (Nat.le_of_ble_eq_true rfl) (Nat.le_of_ble_eq_true rfl) rfl rfl h (fun x12 H11 h => ?_)
      exact g_ret zp127 rfl rfl ⟨_, rfl, h⟩
  · replace h := h.2 c3
    refine g_al zp127 rfl rfl rfl (by decide) ?_
    refine g_ic zp127 rfl rfl ?_
    refine g_callI (as := [zR 32, zI 1]) (rest := []) zp127 rfl rfl (Nat.succ_pos _) rfl rfl (Nat.le_of_ble_eq_true rfl) (Nat.le_of_ble_eq_true rfl) rfl rfl h (fun x14 H13 h => ?_)
    exact g_ret zp127 rfl rfl ⟨_, rfl, h⟩
theorem x127_50 {w : zWt} {d : Nat} {H : zHt} {K : Int → zHt → Prop} {l2 : Int} {l3 : Int} {l4 : Int} {l5 : Int} {l6 : Int} {l7 : Int}
    (h : (l3 ≤ l7 → (¬ l2 = 0 → (¬ l5 = 0 → (¬ l2 = 1 → zclI w d 39 [zR 32, zI l5] H (fun x6 H5 => K x6 H5)) ∧ (l2 = 1 → zclI w d 39 [zR 32, zI l6] H (fun x8 H7 => K x8 H7))) ∧ (l5 = 0 → zclI w d 13 [zR 32, zI 5] H (fun x10 H9 => K x10 H9))) ∧ (l2 = 0 → zclI w d 39 [zR 32, zI l4] H (fun x12 H11 => K x12 H11))) ∧ (l7 < l3 → (0 ≤ l7 ∧ l7 < 501) ∧ (¬ (H 51 l7) = 0 → zclI w d 129 [zR 32, zI l7, zI l7] H (fun x16 H15 => (¬ x16 = 0 → zgo w (d + 1) 127 87 [zR 32, zJ, zI l2, zI l3, zJ, zI l5, zI l6, zI l7, zJ] [zI 0, zI l4] H15 (zQI K)) ∧ (x16 = 0 → zgo w (d + 1) 127 87 [zR 32, zJ, zI l2, zI l3, zJ, zI l5, zI l6, zI l7, zJ] [zI 1, zI l4] H15 (zQI K)))) ∧ ((H 51 l7) = 0 → zgo w (d + 1) 127 50 [zR 32, zJ, zI l2, zI l3, zI l4, zI l5, zI l6, zI (w32 (l7 + 1)), zJ] [] H (zQI K)))) :
    zgo w (d + 1) 127 50 [zR 32, zJ, zI l2, zI l3, zI l4, zI l5, zI l6, zI l7, zJ] [] H (zQI K) := by
  refine g_il zp127 rfl rfl rfl ?_
  refine g_il zp127 rfl rfl rfl ?_
  refine g_icmp zp127 rfl rfl zc3 (fun c1 => ?_) (fun c1 => ?_)
  · replace h := h.1 c1
    refine g_il zp127 rfl rfl rfl ?_
    refine g_if zp127 rfl rfl zc1 (fun c2 => ?_) (fun c2 => ?_)
    · replace h := h.1 c2
      refine g_il zp127 rfl rfl rfl ?_
      refine g_if zp127 rfl rfl zc1 (fun c3 => ?_) (fun c3 => ?_)
      · replace h := h.1 c3
        refine g_al zp127 rfl rfl rfl (by decide) ?_
        refine g_il zp127 rfl rfl rfl ?_
        refine g_ic zp127 rfl rfl ?_
        refine g_icmp zp127 rfl rfl zc1 (fun c4 => ?_) (fun c4 => ?_)
        · replace h := h.1 c4
          refine g_il zp127 rfl rfl rfl ?_
          refine g_callI (as := [zR 32, zI l5]) (rest := []) zp127 rfl rfl (Nat.succ_pos _) rfl rfl (Nat.le_of_ble_eq_true rfl) (Nat.le_of_ble_eq_true rfl) rfl rfl h (fun x6 H5 h => ?_)
          exact g_ret zp127 rfl rfl ⟨_, rfl, h⟩
        · replace h := h.2 c4
          refine g_il zp127 rfl rfl rfl ?_
          refine g_goto zp127 rfl ?_
          refine g_callI (as := [zR 32, zI l6]) (rest := []) zp127 rfl rfl (Nat.succ_pos _) rfl rfl (Nat.le_of_ble_eq_true rfl) (Nat.le_of_ble_eq_true rfl) rfl rfl h (fun x8 H7 h => ?_)
          exact g_ret zp127 rfl rfl ⟨_, rfl, h⟩
      · replace h := h.2 c3
        refine g_al zp127 rfl rfl rfl (by decide) ?_
        refine g_ic zp127 rfl rfl ?_
        refine g_callI (as := [zR 32, zI 5]) (rest := []) zp127 rfl rfl (Nat.succ_pos _) rfl rfl (Nat.le_of_ble_eq_true rfl) (Nat.le_of_ble_eq_true rfl) rfl rfl h (fun x10 H9 h => ?_)
        exact g_ret zp127 rfl rfl ⟨_, rfl, h⟩
    · replace h := h.2 c2
      refine g_al zp127 rfl rfl rfl (by decide) ?_
      refine g_il zp127 rfl rfl rfl ?_
      refine g_callI (as := [zR 32, zI l4]) (rest := []) zp127 rfl rfl (Nat.succ_pos _) rfl rfl (Nat.le_of_ble_eq_true rfl) (Nat.le_of_ble_eq_true rfl) rfl rfl h (fun x12 H11 h => ?_)
      exact g_ret zp127 rfl rfl ⟨_, rfl, h⟩
  · replace h := h.2 c1
    refine g_al zp127 rfl rfl rfl (by decide) ?_
    refine g_get (v := zR 51) zp127 rfl rfl rfl ⟨rfl, by decide, (by decide)⟩ rfl ?_
    refine g_il zp127 rfl rfl rfl ?_
    obtain ⟨c13, h⟩ := h
    refine g_ald (v := zI (H 51 l7)) zp127 rfl rfl rfl rfl c13 rfl ?_
    refine g_if zp127 rfl rfl zc1 (fun c14 => ?_) (fun c14 => ?_)
    · replace h := h.1 c14
      refine g_il zp127 rfl rfl rfl ?_
      refine g_al zp127 rfl rfl rfl (by decide) ?_
      refine g_il zp127 rfl rfl rfl ?_
      refine g_il zp127 rfl rfl rfl ?_
      refine g_callI (as := [zR 32, zI l7, zI l7]) (rest := [zI l4]) zp127 rfl rfl (Nat.succ_pos _) rfl rfl (Nat.le_of_ble_eq_true rfl) (Nat.le_of_ble_eq_true rfl) rfl rfl h (fun x16 H15 h => ?_)
      refine g_if zp127 rfl rfl zc1 (fun c17 => ?_) (fun c17 => ?_)
      · replace h := h.1 c17
        refine g_ic zp127 rfl rfl ?_
        exact g_weak (ls' := [zR 32, zJ, zI l2, zI l3, zJ, zI l5, zI l6, zI l7, zJ]) ⟨Or.inr rfl, Or.inr rfl, Or.inr rfl, Or.inr rfl, Or.inl rfl, Or.inr rfl, Or.inr rfl, Or.inr rfl, Or.inr rfl, trivial⟩ h
      · replace h := h.2 c17
        refine g_ic zp127 rfl rfl ?_
        refine g_goto zp127 rfl ?_
        exact g_weak (ls' := [zR 32, zJ, zI l2, zI l3, zJ, zI l5, zI l6, zI l7, zJ]) ⟨Or.inr rfl, Or.inr rfl, Or.inr rfl, Or.inr rfl, Or.inl rfl, Or.inr rfl, Or.inr rfl, Or.inr rfl, Or.inr rfl, trivial⟩ h
    · replace h := h.2 c14
      refine g_goto zp127 rfl ?_
      refine g_inc (ls' := [zR 32, zJ, zI l2, zI l3, zI l4, zI l5, zI l6, zI (w32 (l7 + 1)), zJ]) zp127 rfl rfl rfl rfl ?_
      refine g_goto zp127 rfl ?_
      exact g_weak (ls' := [zR 32, zJ, zI l2, zI l3, zI l4, zI l5, zI l6, zI (w32 (l7 + 1)), zJ]) ⟨Or.inr rfl, Or.inr rfl, Or.inr rfl, Or.inr rfl, Or.inr rfl, Or.inr rfl, Or.inr rfl, Or.inr rfl, Or.inr rfl, trivial⟩ h
theorem x127_87 {w : zWt} {d : Nat} {H : zHt} {K : Int → zHt → Prop} {l2 : Int} {l3 : Int} {l5 : Int} {l6 : Int} {l7 : Int} {s0 : Int} {s1 : Int}
    (h : zclI w d 129 [zR 32, zI l3, zI l7] H (fun x2 H1 => (l5 < x2 → (0 ≤ l7 ∧ l7 < 501) ∧ zgo w (d + 1) 127 50 [zR 32, zJ, zI l2, zI l3, zI (w32 (s0 + s1)), zI x2, zI (H1 51 l7), zI (w32 (l7 + 1)), zJ] [] H1 (zQI K)) ∧ (x2 ≤ l5 → (¬ x2 = l5 → zgo w (d + 1) 127 50 [zR 32, zJ, zI l2, zI l3, zI (w32 (s0 + s1)), zI l5, zI l6, zI (w32 (l7 + 1)), zJ] [] H1 (zQI K)) ∧ (x2 = l5 → (0 ≤ l7 ∧ l7 < 501) ∧ (l6 ≤ (H1 51 l7) → zgo w (d + 1) 127 50 [zR 32, zJ, zI l2, zI l3, zI (w32 (s0 + s1)), zI l5, zI l6, zI (w32 (l7 + 1)), zJ] [] H1 (zQI K)) ∧ ((H1 51 l7) < l6 → zgo w (d + 1) 127 50 [zR 32, zJ, zI l2, zI l3, zI (w32 (s0 + s1)), zI x2, zI (H1 51 l7), zI (w32 (l7 + 1)), zJ] [] H1 (zQI K)))))) :
    zgo w (d + 1) 127 87 [zR 32, zJ, zI l2, zI l3, zJ, zI l5, zI l6, zI l7, zJ] [zI s1, zI s0] H (zQI K) := by
  refine g_ar (r := w32 (s0 + s1)) zp127 rfl rfl rfl ?_
  refine g_is (ls' := [zR 32, zJ, zI l2, zI l3, zI (w32 (s0 + s1)), zI l5, zI l6, zI l7, zJ]) zp127 rfl rfl (Nat.le_of_ble_eq_true rfl) rfl ?_
  refine g_al zp127 rfl rfl rfl (by decide) ?_
  refine g_il zp127 rfl rfl rfl ?_
  refine g_il zp127 rfl rfl rfl ?_
  refine g_callI (as := [zR 32, zI l3, zI l7]) (rest := []) zp127 rfl rfl (Nat.succ_pos _) rfl rfl (Nat.le_of_ble_eq_true rfl) (Nat.le_of_ble_eq_true rfl) rfl rfl h (fun x2 H1 h => ?_)
  refine g_is (ls' := [zR 32, zJ, zI l2, zI l3, zI (w32 (s0 + s1)), zI l5, zI l6, zI l7, zI x2]) zp127 rfl rfl (Nat.le_of_ble_eq_true rfl) rfl ?_
  refine g_il zp127 rfl rfl rfl ?_
  refine g_il zp127 rfl rfl rfl ?_
  refine g_icmp zp127 rfl rfl zc4 (fun c3 => ?_) (fun c3 => ?_)
  · replace h := h.1 c3
    refine g_il zp127 rfl rfl rfl ?_
    refine g_is (ls' := [zR 32, zJ, zI l2, zI l3, zI (w32 (s0 + s1)), zI x2, zI l6, zI l7, zI x2]) zp127 rfl rfl (Nat.le_of_ble_eq_true rfl) rfl ?_
    refine g_al zp127 rfl rfl rfl (by decide) ?_
    refine g_get (v := zR 51) zp127 rfl rfl rfl ⟨rfl, by decide, (by decide)⟩ rfl ?_
    refine g_il zp127 rfl rfl rfl ?_
    obtain ⟨c4, h⟩ := h
    refine g_ald (v := zI (H1 51 l7)) zp127 rfl rfl rfl rfl c4 rfl ?_
    refine g_is (ls' := [zR 32, zJ, zI l2, zI l3, zI (w32 (s0 + s1)), zI x2, zI (H1 51 l7), zI l7, zI x2]) zp127 rfl rfl (Nat.le_of_ble_eq_true rfl) rfl ?_
    refine g_inc (ls' := [zR 32, zJ, zI l2, zI l3, zI (w32 (s0 + s1)), zI x2, zI (H1 51 l7), zI (w32 (l7 + 1)), zI x2]) zp127 rfl rfl rfl rfl ?_
    refine g_goto zp127 rfl ?_
    exact g_weak (ls' := [zR 32, zJ, zI l2, zI l3, zI (w32 (s0 + s1)), zI x2, zI (H1 51 l7), zI (w32 (l7 + 1)), zJ]) ⟨Or.inr rfl, Or.inr rfl, Or.inr rfl, Or.inr rfl, Or.inr rfl, Or.inr rfl, Or.inr rfl, Or.inr rfl, Or.inl rfl, trivial⟩ h
  · replace h := h.2 c3
    refine g_il zp127 rfl rfl rfl ?_
    refine g_il zp127 rfl rfl rfl ?_
    refine g_icmp zp127 rfl rfl zc1 (fun c5 => ?_) (fun c5 => ?_)
    · replace h := h.1 c5
      refine g_inc (ls' := [zR 32, zJ, zI l2, zI l3, zI (w32 (s0 + s1)), zI l5, zI l6, zI (w32 (l7 + 1)), zI x2]) zp127 rfl rfl rfl rfl ?_
      refine g_goto zp127 rfl ?_
      exact g_weak (ls' := [zR 32, zJ, zI l2, zI l3, zI (w32 (s0 + s1)), zI l5, zI l6, zI (w32 (l7 + 1)), zJ]) ⟨Or.inr rfl, Or.inr rfl, Or.inr rfl, Or.inr rfl, Or.inr rfl, Or.inr rfl, Or.inr rfl, Or.inr rfl, Or.inl rfl, trivial⟩ h
    · replace h := h.2 c5
      refine g_al zp127 rfl rfl rfl (by decide) ?_
      refine g_get (v := zR 51) zp127 rfl rfl rfl ⟨rfl, by decide, (by decide)⟩ rfl ?_
      refine g_il zp127 rfl rfl rfl ?_
      obtain ⟨c6, h⟩ := h
      refine g_ald (v := zI (H1 51 l7)) zp127 rfl rfl rfl rfl c6 rfl ?_
      refine g_il zp127 rfl rfl rfl ?_
      refine g_icmp zp127 rfl rfl zc3 (fun c7 => ?_) (fun c7 => ?_)
      · replace h := h.1 c7
        refine g_inc (ls' := [zR 32, zJ, zI l2, zI l3, zI (w32 (s0 + s1)), zI l5, zI l6, zI (w32 (l7 + 1)), zI x2]) zp127 rfl rfl rfl rfl ?_
        refine g_goto zp127 rfl ?_
        exact g_weak (ls' := [zR 32, zJ, zI l2, zI l3, zI (w32 (s0 + s1)), zI l5, zI l6, zI (w32 (l7 + 1)), zJ]) ⟨Or.inr rfl, Or.inr rfl, Or.inr rfl, Or.inr rfl, Or.inr rfl, Or.inr rfl, Or.inr rfl, Or.inr rfl, Or.inl rfl, trivial⟩ h
      · replace h := h.2 c7
        refine g_il zp127 rfl rfl rfl ?_
        refine g_is (ls' := [zR 32, zJ, zI l2, zI l3, zI (w32 (s0 + s1)), zI x2, zI l6, zI l7, zI x2]) zp127 rfl rfl (Nat.le_of_ble_eq_true rfl) rfl ?_
        refine g_al zp127 rfl rfl rfl (by decide) ?_
        refine g_get (v := zR 51) zp127 rfl rfl rfl ⟨rfl, by decide, (by decide)⟩ rfl ?_
        refine g_il zp127 rfl rfl rfl ?_
        refine g_ald (v := zI (H1 51 l7)) zp127 rfl rfl rfl rfl c6 rfl ?_
        refine g_is (ls' := [zR 32, zJ, zI l2, zI l3, zI (w32 (s0 + s1)), zI x2, zI (H1 51 l7), zI l7, zI x2]) zp127 rfl rfl (Nat.le_of_ble_eq_true rfl) rfl ?_
        refine g_inc (ls' := [zR 32, zJ, zI l2, zI l3, zI (w32 (s0 + s1)), zI x2, zI (H1 51 l7), zI (w32 (l7 + 1)), zI x2]) zp127 rfl rfl rfl rfl ?_
        refine g_goto zp127 rfl ?_
        exact g_weak (ls' := [zR 32, zJ, zI l2, zI l3, zI (w32 (s0 + s1)), zI x2, zI (H1 51 l7), zI (w32 (l7 + 1)), zJ]) ⟨Or.inr rfl, Or.inr rfl, Or.inr rfl, Or.inr rfl, Or.inr rfl, Or.inr rfl, Or.inr rfl, Or.inr rfl, Or.inl rfl, trivial⟩ h
theorem zp128 : zprog.getD 128 [] = zk128 := rfl
theorem x128_0 {w : zWt} {d : Nat} {H : zHt} {K : Int → zHt → Prop} {l1 : Int} (hl1 : zisW l1)
    (h : zgo w (d + 1) 128 15 [zR 32, zR l1, zI (if 501 < H l1 1 then 501 else H l1 1), zI 0] [] H (zQI K)) :
    zclI w (d + 1) 128 [zR 32, zR l1] H K := by
  show zgo w (d + 1) 128 0 [zR 32, zR l1, zJ, zJ] [] H (zQI K)
  refine g_al zp128 rfl rfl rfl (Int.le_trans (by decide) (zW_ge hl1)) ?_
  refine g_get (v := zI (H l1 1)) zp128 rfl rfl (zW_sh hl1) ⟨rfl, by decide, (zW_ge hl1)⟩ (congrArg (ztag _) (zM_no (zW_ge hl1) (zW_fx hl1 1 (by decide)))) ?_
  refine g_al zp128 rfl rfl rfl (by decide) ?_
  refine g_get (v := zR 51) zp128 rfl rfl rfl ⟨rfl, by decide, (by decide)⟩ rfl ?_
  refine g_len zp128 rfl rfl rfl (by decide) ?_
  refine g_mmin zp128 rfl rfl (Nat.le_of_ble_eq_true rfl) ?_
  refine g_is (ls' := [zR 32, zR l1, zI (if 501 < H l1 1 then 501 else H l1 1), zJ]) zp128 rfl rfl (Nat.le_of_ble_eq_true rfl) rfl ?_
  refine g_ic zp128 rfl rfl ?_
  refine g_is (ls' := [zR 32, zR l1, zI (if 501 < H l1 1 then 501 else H l1 1), zI 0]) zp128 rfl rfl (Nat.le_of_ble_eq_true rfl) rfl ?_
  exact g_weak (ls' := [zR 32, zR l1, zI (if 501 < H l1 1 then 501 else H l1 1), zI 0]) ⟨Or.inr rfl, Or.inr rfl, Or.inr rfl, Or.inr rfl, trivial⟩ h
theorem x128_15 {w : zWt} {d : Nat} {H : zHt} {K : Int → zHt → Prop} {l1 : Int} (hl1 : zisW l1) {l2 : Int} {l3 : Int}
    (h : (l2 ≤ l3 → K l2 H) ∧ (l3 < l2 → (0 ≤ l3 ∧ l3 < 101) ∧ zclI w d 64 [zI (H (l1 + 1) l3)] H (fun x4 H3 => (0 ≤ l3 ∧ l3 < 501) ∧ zgo w (d + 1) 128 15 [zR 32, zR l1, zI l2, zI (w32 (l3 + 1))] [] (zup H3 51 l3 x4) (zQI K)))) :
    zgo w (d + 1) 128 15 [zR 32, zR l1, zI l2, zI l3] [] H (zQI K) := by
  refine g_il zp128 rfl rfl rfl ?_
  refine g_il zp128 rfl rfl rfl ?_
  refine g_icmp zp128 rfl rfl zc3 (fun c1 => ?_) (fun c1 => ?_)
  · replace h := h.1 c1
    refine g_il zp128 rfl rfl rfl ?_
    exact g_ret zp128 rfl rfl ⟨_, rfl, h⟩
  · replace h := h.2 c1
    refine g_al zp128 rfl rfl rfl (by decide) ?_
    refine g_get (v := zR 51) zp128 rfl rfl rfl ⟨rfl, by decide, (by decide)⟩ rfl ?_
    refine g_il zp128 rfl rfl rfl ?_
    refine g_al zp128 rfl rfl rfl (Int.le_trans (by decide) (zW_ge hl1)) ?_
    refine g_get (v := zR (l1 + 1)) zp128 rfl rfl (zW_sh hl1) ⟨rfl, by decide, (zW_ge hl1)⟩ (congrArg (ztag _) (zW_f0 hl1)) ?_
    refine g_il zp128 rfl rfl rfl ?_
    obtain ⟨c2, h⟩ := h
    refine g_ald (v := zI (H (l1 + 1) l3)) zp128 rfl rfl (zW_sh1 hl1) rfl c2 (congrArg (ztag _) (zM_no (zW_ge1 hl1) (zW_fx1 hl1 _))) ?_
    refine g_callI (as := [zI (H (l1 + 1) l3)]) (rest := [zI l3, zR 51]) zp128 rfl rfl (Nat.succ_pos _) rfl rfl (Nat.le_of_ble_eq_true rfl) (Nat.le_of_ble_eq_true rfl) rfl rfl h (fun x4 H3 h => ?_)
    obtain ⟨c5, h⟩ := h
    refine g_iast zp128 rfl rfl rfl (by decide) rfl c5 ?_
    refine g_inc (ls' := [zR 32, zR l1, zI l2, zI (w32 (l3 + 1))]) zp128 rfl rfl rfl rfl ?_
    refine g_goto zp128 rfl ?_
    exact g_weak (ls' := [zR 32, zR l1, zI l2, zI (w32 (l3 + 1))]) ⟨Or.inr rfl, Or.inr rfl, Or.inr rfl, Or.inr rfl, trivial⟩ h
theorem zp129 : zprog.getD 129 [] = zk129 := rfl
theorem x129_0 {w : zWt} {d : Nat} {H : zHt} {K : Int → zHt → Prop} {l1 : Int} {l2 : Int}
    (h : zgo w d 129 5 [zR 32, zI l1, zI l2, zI 0, zI 0] [] H (zQI K)) :
    zclI w d 129 [zR 32, zI l1, zI l2] H K := by
  show zgo w d 129 0 [zR 32, zI l1, zI l2, zJ, zJ] [] H (zQI K)
  refine g_ic zp129 rfl rfl ?_
  refine g_is (ls' := [zR 32, zI l1, zI l2, zI 0, zJ]) zp129 rfl rfl (Nat.le_of_ble_eq_true rfl) rfl ?_
  refine g_ic zp129 rfl rfl ?_
  refine g_is (ls' := [zR 32, zI l1, zI l2, zI 0, zI 0]) zp129 rfl rfl (Nat.le_of_ble_eq_true rfl) rfl ?_
  exact g_weak (ls' := [zR 32, zI l1, zI l2, zI 0, zI 0]) ⟨Or.inr rfl, Or.inr rfl, Or.inr rfl, Or.inr rfl, Or.inr rfl, trivial⟩ h
theorem x129_5 {w : zWt} {d : Nat} {H : zHt} {K : Int → zHt → Prop} {l1 : Int} {l2 : Int} {l3 : Int} {l4 : Int}
    (h : (l1 ≤ l4 → K l3 H) ∧ (l4 < l1 → (501 ≤ l4 → K l3 H) ∧ (l4 < 501 → (501 ≤ l2 → K l3 H) ∧ (l2 < 501 → (0 ≤ l4 ∧ l4 < 501) ∧ (0 ≤ l2 ∧ l2 < 501) ∧ (¬ (H 51 l4) = (H 51 l2) → zgo w d 129 5 [zR 32, zI l1, zI l2, zI (w32 (l3 + 0)), zI (w32 (l4 + 1))] [] H (zQI K)) ∧ ((H 51 l4) = (H 51 l2) → zgo w d 129 5 [zR 32, zI l1, zI l2, zI (w32 (l3 + 1)), zI (w32 (l4 + 1))] [] H (zQI K)))))) :
    zgo w d 129 5 [zR 32, zI l1, zI l2, zI l3, zI l4] [] H (zQI K) := by
  refine g_il zp129 rfl rfl rfl ?_
  refine g_il zp129 rfl rfl rfl ?_
  refine g_icmp zp129 rfl rfl zc3 (fun c1 => ?_) (fun c1 => ?_)
  · replace h := h.1 c1
    refine g_il zp129 rfl rfl rfl ?_
    exact g_ret zp129 rfl rfl ⟨_, rfl, h⟩
  · replace h := h.2 c1
    refine g_il zp129 rfl rfl rfl ?_
    refine g_al zp129 rfl rfl rfl (by decide) ?_
    refine g_get (v := zR 51) zp129 rfl rfl rfl ⟨rfl, by decide, (by decide)⟩ rfl ?_
    refine g_len zp129 rfl rfl rfl (by decide) ?_
    refine g_icmp zp129 rfl rfl zc3 (fun c2 => ?_) (fun c2 => ?_)
    · replace h := h.1 c2
      refine g_il zp129 rfl rfl rfl ?_
      exact g_ret zp129 rfl rfl ⟨_, rfl, h⟩
    · replace h := h.2 c2
      refine g_il zp129 rfl rfl rfl ?_
      refine g_al zp129 rfl rfl rfl (by decide) ?_
      refine g_get (v := zR 51) zp129 rfl rfl rfl ⟨rfl, by decide, (by decide)⟩ rfl ?_
      refine g_len zp129 rfl rfl rfl (by decide) ?_
      refine g_icmp zp129 rfl rfl zc3 (fun c3 => ?_) (fun c3 => ?_)
      · replace h := h.1 c3
        refine g_il zp129 rfl rfl rfl ?_
        exact g_ret zp129 rfl rfl ⟨_, rfl, h⟩
      · replace h := h.2 c3
        refine g_il zp129 rfl rfl rfl ?_
        refine g_al zp129 rfl rfl rfl (by decide) ?_
        refine g_get (v := zR 51) zp129 rfl rfl rfl ⟨rfl, by decide, (by decide)⟩ rfl ?_
        refine g_il zp129 rfl rfl rfl ?_
        obtain ⟨c4, h⟩ := h
        refine g_ald (v := zI (H 51 l4)) zp129 rfl rfl rfl rfl c4 rfl ?_
        refine g_al zp129 rfl rfl rfl (by decide) ?_
        refine g_get (v := zR 51) zp129 rfl rfl rfl ⟨rfl, by decide, (by decide)⟩ rfl ?_
        refine g_il zp129 rfl rfl rfl ?_
        obtain ⟨c5, h⟩ := h
        refine g_ald (v := zI (H 51 l2)) zp129 rfl rfl rfl rfl c5 rfl ?_
        refine g_icmp zp129 rfl rfl zc1 (fun c6 => ?_) (fun c6 => ?_)
        · replace h := h.1 c6
          refine g_ic zp129 rfl rfl ?_
          refine g_ar (r := w32 (l3 + 0)) zp129 rfl rfl rfl ?_
          refine g_is (ls' := [zR 32, zI l1, zI l2, zI (w32 (l3 + 0)), zI l4]) zp129 rfl rfl (Nat.le_of_ble_eq_true rfl) rfl ?_
          refine g_inc (ls' := [zR 32, zI l1, zI l2, zI (w32 (l3 + 0)), zI (w32 (l4 + 1))]) zp129 rfl rfl rfl rfl ?_
          refine g_goto zp129 rfl ?_
          exact g_weak (ls' := [zR 32, zI l1, zI l2, zI (w32 (l3 + 0)), zI (w32 (l4 + 1))]) ⟨Or.inr rfl, Or.inr rfl, Or.inr rfl, Or.inr rfl, Or.inr rfl, trivial⟩ h
        · replace h := h.2 c6
          refine g_ic zp129 rfl rfl ?_
          refine g_goto zp129 rfl ?_
          refine g_ar (r := w32 (l3 + 1)) zp129 rfl rfl rfl ?_
          refine g_is (ls' := [zR 32, zI l1, zI l2, zI (w32 (l3 + 1)), zI l4]) zp129 rfl rfl (Nat.le_of_ble_eq_true rfl) rfl ?_
          refine g_inc (ls' := [zR 32, zI l1, zI l2, zI (w32 (l3 + 1)), zI (w32 (l4 + 1))]) zp129 rfl rfl rfl rfl ?_
          refine g_goto zp129 rfl ?_
          exact g_weak (ls' := [zR 32, zI l1, zI l2, zI (w32 (l3 + 1)), zI (w32 (l4 + 1))]) ⟨Or.inr rfl, Or.inr rfl, Or.inr rfl, Or.inr rfl, Or.inr rfl, trivial⟩ h
theorem zp130 : zprog.getD 130 [] = zk130 := rfl
theorem x130_0 {w : zWt} {d : Nat} {H : zHt} {K : Int → zHt → Prop} {l1 : Int} {l2 : Int} {l3 : Int}
    (h : zclI w d 44 [zI l2, zI 3] H (fun x2 H1 => (x2 = 0 → zclI w d 13 [zR 32, zI 1] H1 (fun x5 H4 => K x5 H4)) ∧ (¬ x2 = 0 → zclI w d 44 [zI l3, zI 3] H1 (fun x7 H6 => (¬ x7 = 0 → zclI w d 106 [zR 32, zI l1] H6 (fun x10 H9 => (¬ x10 = 0 → (¬ l2 = (H9 40 4) → zclR w d 108 [zR 32, zI l1] H9 (fun x14 H13 => (zisW x14) ∧ (0 ≤ l1 ∧ l1 < 6) ∧ zclV w d 109 [zR 46, zI (H13 41 l1), zI l2, zR 40, zR 36] H13 (fun H16 => (l3 < 0 ∨ 3 ≤ l3 → zclI w d 114 [zR 46] H16 (fun x19 H18 => zclI w d 39 [zR 32, zI x19] H18 (fun x21 H20 => K x21 H20))) ∧ (l3 = 0 → zclI w d 131 [zR x14, zR 46] H16 (fun x23 H22 => (¬ x23 = (-1) → zclI w d 39 [zR 32, zI x23] H22 (fun x26 H25 => K x26 H25)) ∧ (x23 = (-1) → zclI w d 13 [zR 32, zI 5] H22 (fun x28 H27 => K x28 H27)))) ∧ (l3 = 1 → zclI w d 39 [zR 32, zI (H16 46 1)] H16 (fun x30 H29 => K x30 H29)) ∧ (l3 = 2 → zclI w d 39 [zR 32, zI (H16 46 2)] H16 (fun x32 H31 => K x32 H31))))) ∧ (l2 = (H9 40 4) → zclI w d 13 [zR 32, zI 4] H9 (fun x34 H33 => K x34 H33))) ∧ (x10 = 0 → zclI w d 13 [zR 32, zI 2] H9 (fun x36 H35 => K x36 H35)))) ∧ (x7 = 0 → zclI w d 13 [zR 32, zI 1] H6 (fun x38 H37 => K x38 H37)))))) :
    zclI w (d + 1) 130 [zR 32, zI l1, zI l2, zI l3] H K := by
  show zgo w (d + 1) 130 0 [zR 32, zI l1, zI l2, zI l3, zJ, zJ] [] H (zQI K)
  refine g_il zp130 rfl rfl rfl ?_
  refine g_ic zp130 rfl rfl ?_
  refine g_callI (as := [zI l2, zI 3]) (rest := []) zp130 rfl rfl (Nat.succ_pos _) rfl rfl (Nat.le_of_ble_eq_true rfl) (Nat.le_of_ble_eq_true rfl) rfl rfl h (fun x2 H1 h => ?_)
  refine g_if zp130 rfl rfl zc0 (fun c3 => ?_) (fun c3 => ?_)
  · replace h := h.1 c3
    refine g_al zp130 rfl rfl rfl (by decide) ?_
    refine g_ic zp130 rfl rfl ?_
    refine g_callI (as := [zR 32, zI 1]) (rest := []) zp130 rfl rfl (Nat.succ_pos _) rfl rfl (Nat.le_of_ble_eq_true rfl) (Nat.le_of_ble_eq_true rfl) rfl rfl h (fun x5 H4 h => ?_)
    exact g_ret zp130 rfl rfl ⟨_, rfl, h⟩
  · replace h := h.2 c3
    refine g_il zp130 rfl rfl rfl ?_
    refine g_ic zp130 rfl rfl ?_
    refine g_callI (as := [zI l3, zI 3]) (rest := []) zp130 rfl rfl (Nat.succ_pos _) rfl rfl (Nat.le_of_ble_eq_true rfl) (Nat.le_of_ble_eq_true rfl) rfl rfl h (fun x7 H6 h => ?_)
    refine g_if zp130 rfl rfl zc1 (fun c8 => ?_) (fun c8 => ?_)
    · replace h := h.1 c8
      refine g_al zp130 rfl rfl rfl (by decide) ?_
      refine g_il zp130 rfl rfl rfl ?_
      refine g_callI (as := [zR 32, zI l1]) (rest := []) zp130 rfl rfl (Nat.succ_pos _) rfl rfl (Nat.le_of_ble_eq_true rfl) (Nat.le_of_ble_eq_true rfl) rfl rfl h (fun x10 H9 h => ?_)
      refine g_if zp130 rfl rfl zc1 (fun c11 => ?_) (fun c11 => ?_)
      · replace h := h.1 c11
        refine g_il zp130 rfl rfl rfl ?_
        refine g_al zp130 rfl rfl rfl (by decide) ?_
        refine g_get (v := zR 40) zp130 rfl rfl rfl ⟨rfl, by decide, (by decide)⟩ rfl ?_
        refine g_get (v := zI (H9 40 4)) zp130 rfl rfl rfl ⟨rfl, by decide, (by decide)⟩ rfl ?_
        refine g_icmp zp130 rfl rfl zc1 (fun c12 => ?_) (fun c12 => ?_)
        · replace h := h.1 c12
          refine g_al zp130 rfl rfl rfl (by decide) ?_
          refine g_il zp130 rfl rfl rfl ?_
          refine g_callR (as := [zR 32, zI l1]) (rest := []) zp130 rfl rfl (Nat.succ_pos _) rfl rfl (Nat.le_of_ble_eq_true rfl) (Nat.le_of_ble_eq_true rfl) rfl rfl h (fun x14 H13 h => ?_)
          obtain ⟨fx14, h⟩ := h
          refine g_as (ls' := [zR 32, zI l1, zI l2, zI l3, zR x14, zJ]) zp130 rfl rfl (Nat.le_of_ble_eq_true rfl) (Int.le_trans (by decide) (zW_ge fx14)) rfl ?_
          refine g_al zp130 rfl rfl rfl (by decide) ?_
          refine g_get (v := zR 46) zp130 rfl rfl rfl ⟨rfl, by decide, (by decide)⟩ rfl ?_
          refine g_al zp130 rfl rfl rfl (by decide) ?_
          refine g_get (v := zR 40) zp130 rfl rfl rfl ⟨rfl, by decide, (by decide)⟩ rfl ?_
          refine g_get (v := zR 41) zp130 rfl rfl rfl ⟨rfl, by decide, (by decide)⟩ rfl ?_
          refine g_il zp130 rfl rfl rfl ?_
          obtain ⟨c15, h⟩ := h
          refine g_ald (v := zI (H13 41 l1)) zp130 rfl rfl rfl rfl c15 rfl ?_
          refine g_il zp130 rfl rfl rfl ?_
          refine g_al zp130 rfl rfl rfl (by decide) ?_
          refine g_get (v := zR 40) zp130 rfl rfl rfl ⟨rfl, by decide, (by decide)⟩ rfl ?_
          refine g_al zp130 rfl rfl rfl (by decide) ?_
          refine g_get (v := zR 36) zp130 rfl rfl rfl ⟨rfl, by decide, (by decide)⟩ rfl ?_
          refine g_callV (as := [zR 46, zI (H13 41 l1), zI l2, zR 40, zR 36]) (rest := []) zp130 rfl rfl (Nat.succ_pos _) rfl rfl (Nat.le_of_ble_eq_true rfl) (Nat.le_of_ble_eq_true rfl) rfl rfl h (fun H16 h => ?_)
          refine g_il zp130 rfl rfl rfl ?_
          rcases Classical.em (l3 < 0 ∨ 3 ≤ l3) with c | c
          · refine g_tabO zp130 rfl c ?_
            replace h := h.1 c
            refine g_al zp130 rfl rfl rfl (by decide) ?_
            refine g_al zp130 rfl rfl rfl (by decide) ?_
            refine g_get (v := zR 46) zp130 rfl rfl rfl ⟨rfl, by decide, (by decide)⟩ rfl ?_
            refine g_callI (as := [zR 46]) (rest := [zR 32]) zp130 rfl rfl (Nat.succ_pos _) rfl rfl (Nat.le_of_ble_eq_true rfl) (Nat.le_of_ble_eq_true rfl) rfl rfl h (fun x19 H18 h => ?_)
            refine g_callI (as := [zR 32, zI x19]) (rest := []) zp130 rfl rfl (Nat.succ_pos _) rfl rfl (Nat.le_of_ble_eq_true rfl) (Nat.le_of_ble_eq_true rfl) rfl rfl h (fun x21 H20 h => ?_)
            exact g_ret zp130 rfl rfl ⟨_, rfl, h⟩
          · replace h := h.2
            have hh : l3 = 0 ∨ l3 = 1 ∨ l3 = 2 := by omega
            rcases hh with c | c | c
            · replace h := h.1 c
              refine g_tabE (z := 0) zp130 rfl c (by decide) rfl ?_
              refine g_al zp130 rfl rfl rfl (Int.le_trans (by decide) (zW_ge fx14)) ?_
              refine g_al zp130 rfl rfl rfl (by decide) ?_
              refine g_get (v := zR 46) zp130 rfl rfl rfl ⟨rfl, by decide, (by decide)⟩ rfl ?_
              refine g_callI (as := [zR x14, zR 46]) (rest := []) zp130 rfl rfl (Nat.succ_pos _) rfl rfl (Nat.le_of_ble_eq_true rfl) (Nat.le_of_ble_eq_true rfl) (zrecv_of (zW_sh fx14) rfl) rfl h (fun x23 H22 h => ?_)
              refine g_is (ls' := [zR 32, zI l1, zI l2, zI l3, zR x14, zI x23]) zp130 rfl rfl (Nat.le_of_ble_eq_true rfl) rfl ?_
              refine g_il zp130 rfl rfl rfl ?_
              refine g_ic zp130 rfl rfl ?_
              refine g_icmp zp130 rfl rfl zc1 (fun c24 => ?_) (fun c24 => ?_)
              · replace h := h.1 c24
                refine g_al zp130 rfl rfl rfl (by decide) ?_
                refine g_il zp130 rfl rfl rfl ?_
                refine g_callI (as := [zR 32, zI x23]) (rest := []) zp130 rfl rfl (Nat.succ_pos _) rfl rfl (Nat.le_of_ble_eq_true rfl) (Nat.le_of_ble_eq_true rfl) rfl rfl h (fun x26 H25 h => ?_)
                exact g_ret zp130 rfl rfl ⟨_, rfl, h⟩
              · replace h := h.2 c24
                refine g_al zp130 rfl rfl rfl (by decide) ?_
                refine g_ic zp130 rfl rfl ?_
                refine g_callI (as := [zR 32, zI 5]) (rest := []) zp130 rfl rfl (Nat.succ_pos _) rfl rfl (Nat.le_of_ble_eq_true rfl) (Nat.le_of_ble_eq_true rfl) rfl rfl h (fun x28 H27 h => ?_)
                refine g_goto zp130 rfl ?_
                exact g_ret zp130 rfl rfl ⟨_, rfl, h⟩
            · replace h := h.2.1 c
              refine g_tabE (z := 1) zp130 rfl c (by decide) rfl ?_
              refine g_al zp130 rfl rfl rfl (by decide) ?_
              refine g_al zp130 rfl rfl rfl (by decide) ?_
              refine g_get (v := zR 46) zp130 rfl rfl rfl ⟨rfl, by decide, (by decide)⟩ rfl ?_
              refine g_get (v := zI (H16 46 1)) zp130 rfl rfl rfl ⟨rfl, by decide, (by decide)⟩ rfl ?_
              refine g_callI (as := [zR 32, zI (H16 46 1)]) (rest := []) zp130 rfl rfl (Nat.succ_pos _) rfl rfl (Nat.le_of_ble_eq_true rfl) (Nat.le_of_ble_eq_true rfl) rfl rfl h (fun x30 H29 h => ?_)
              exact g_ret zp130 rfl rfl ⟨_, rfl, h⟩
            · replace h := h.2.2 c
              refine g_tabE (z := 2) zp130 rfl c (by decide) rfl ?_
              refine g_al zp130 rfl rfl rfl (by decide) ?_
              refine g_al zp130 rfl rfl rfl (by decide) ?_
              refine g_get (v := zR 46) zp130 rfl rfl rfl ⟨rfl, by decide, (by decide)⟩ rfl ?_
              refine g_get (v := zI (H16 46 2)) zp130 rfl rfl rfl ⟨rfl, by decide, (by decide)⟩ rfl ?_
              refine g_callI (as := [zR 32, zI (H16 46 2)]) (rest := []) zp130 rfl rfl (Nat.succ_pos _) rfl rfl (Nat.le_of_ble_eq_true rfl) (Nat.le_of_ble_eq_true rfl) rfl rfl h (fun x32 H31 h => ?_)
              exact g_ret zp130 rfl rfl ⟨_, rfl, h⟩
        · replace h := h.2 c12
          refine g_al zp130 rfl rfl rfl (by decide) ?_
          refine g_ic zp130 rfl rfl ?_
          refine g_callI (as := [zR 32, zI 4]) (rest := []) zp130 rfl rfl (Nat.succ_pos _) rfl rfl (Nat.le_of_ble_eq_true rfl) (Nat.le_of_ble_eq_true rfl) rfl rfl h (fun x34 H33 h => ?_)
          exact g_ret zp130 rfl rfl ⟨_, rfl, h⟩
      · replace h := h.2 c11
        refine g_al zp130 rfl rfl rfl (by decide) ?_
        refine g_ic zp130 rfl rfl ?_
        refine g_callI (as := [zR 32, zI 2]) (rest := []) zp130 rfl rfl (Nat.succ_pos _) rfl rfl (Nat.le_of_ble_eq_true rfl) (Nat.le_of_ble_eq_true rfl) rfl rfl h (fun x36 H35 h => ?_)
        exact g_ret zp130 rfl rfl ⟨_, rfl, h⟩
    · replace h := h.2 c8
      refine g_al zp130 rfl rfl rfl (by decide) ?_
      refine g_ic zp130 rfl rfl ?_
      refine g_callI (as := [zR 32, zI 1]) (rest := []) zp130 rfl rfl (Nat.succ_pos _) rfl rfl (Nat.le_of_ble_eq_true rfl) (Nat.le_of_ble_eq_true rfl) rfl rfl h (fun x38 H37 h => ?_)
      exact g_ret zp130 rfl rfl ⟨_, rfl, h⟩
theorem zp131 : zprog.getD 131 [] = zk131 := rfl
theorem x131_0 {w : zWt} {d : Nat} {H : zHt} {K : Int → zHt → Prop} {l0 : Int} (hl0 : zisW l0) {l1 : Int} (hl1 : zisW l1)
    (h : zgo w d 131 14 [zR l0, zR l1, zI (if H l1 1 < H l0 1 then H l1 1 else H l0 1), zI 0] [] H (zQI K)) :
    zclI w d 131 [zR l0, zR l1] H K := by
  show zgo w d 131 0 [zR l0, zR l1, zJ, zJ] [] H (zQI K)
  refine g_al zp131 rfl rfl rfl (Int.le_trans (by decide) (zW_ge hl0)) ?_
  refine g_get (v := zI (H l0 1)) zp131 rfl rfl (zW_sh hl0) ⟨rfl, by decide, (zW_ge hl0)⟩ (congrArg (ztag _) (zM_no (zW_ge hl0) (zW_fx hl0 1 (by decide)))) ?_
  refine g_al zp131 rfl rfl rfl (Int.le_trans (by decide) (zW_ge hl1)) ?_
  refine g_get (v := zI (H l1 1)) zp131 rfl rfl (zW_sh hl1) ⟨rfl, by decide, (zW_ge hl1)⟩ (congrArg (ztag _) (zM_no (zW_ge hl1) (zW_fx hl1 1 (by decide)))) ?_
  refine g_mmin zp131 rfl rfl (Nat.le_of_ble_eq_true rfl) ?_
  refine g_is (ls' := [zR l0, zR l1, zI (if H l1 1 < H l0 1 then H l1 1 else H l0 1), zJ]) zp131 rfl rfl (Nat.le_of_ble_eq_true rfl) rfl ?_
  refine g_ic zp131 rfl rfl ?_
  refine g_is (ls' := [zR l0, zR l1, zI (if H l1 1 < H l0 1 then H l1 1 else H l0 1), zI 0]) zp131 rfl rfl (Nat.le_of_ble_eq_true rfl) rfl ?_
  exact g_weak (ls' := [zR l0, zR l1, zI (if H l1 1 < H l0 1 then H l1 1 else H l0 1), zI 0]) ⟨Or.inr rfl, Or.inr rfl, Or.inr rfl, Or.inr rfl, trivial⟩ h
theorem x131_14 {w : zWt} {d : Nat} {H : zHt} {K : Int → zHt → Prop} {l0 : Int} (hl0 : zisW l0) {l1 : Int} (hl1 : zisW l1) {l2 : Int} {l3 : Int}
    (h : (l2 ≤ l3 → (¬ (H l0 1) = (H l1 1) → K l2 H) ∧ ((H l0 1) = (H l1 1) → K (-1) H)) ∧ (l3 < l2 → (0 ≤ l3 ∧ l3 < 101) ∧ ((H (l0 + 1) l3) = (H (l1 + 1) l3) → zgo w d 131 14 [zR l0, zR l1, zI l2, zI (w32 (l3 + 1))] [] H (zQI K)) ∧ (¬ (H (l0 + 1) l3) = (H (l1 + 1) l3) → K l3 H))) :
    zgo w d 131 14 [zR l0, zR l1, zI l2, zI l3] [] H (zQI K) := by
  refine g_il zp131 rfl rfl rfl ?_
  refine g_il zp131 rfl rfl rfl ?_
  refine g_icmp zp131 rfl rfl zc3 (fun c1 => ?_) (fun c1 => ?_)
  · replace h := h.1 c1
    refine g_al zp131 rfl rfl rfl (Int.le_trans (by decide) (zW_ge hl0)) ?_
    refine g_get (v := zI (H l0 1)) zp131 rfl rfl (zW_sh hl0) ⟨rfl, by decide, (zW_ge hl0)⟩ (congrArg (ztag _) (zM_no (zW_ge hl0) (zW_fx hl0 1 (by decide)))) ?_
    refine g_al zp131 rfl rfl rfl (Int.le_trans (by decide) (zW_ge hl1)) ?_
    refine g_get (v := zI (H l1 1)) zp131 rfl rfl (zW_sh hl1) ⟨rfl, by decide, (zW_ge hl1)⟩ (congrArg (ztag _) (zM_no (zW_ge hl1) (zW_fx hl1 1 (by decide)))) ?_
    refine g_icmp zp131 rfl rfl zc1 (fun c2 => ?_) (fun c2 => ?_)
    · replace h := h.1 c2
      refine g_il zp131 rfl rfl rfl ?_
      exact g_ret zp131 rfl rfl ⟨_, rfl, h⟩
    · replace h := h.2 c2
      refine g_ic zp131 rfl rfl ?_
      refine g_goto zp131 rfl ?_
      exact g_ret zp131 rfl rfl ⟨_, rfl, h⟩
  · replace h := h.2 c1
    refine g_al zp131 rfl rfl rfl (Int.le_trans (by decide) (zW_ge hl0)) ?_
    refine g_get (v := zR (l0 + 1)) zp131 rfl rfl (zW_sh hl0) ⟨rfl, by decide, (zW_ge hl0)⟩ (congrArg (ztag _) (zW_f0 hl0)) ?_
    refine g_il zp131 rfl rfl rfl ?_
    obtain ⟨c3, h⟩ := h
    refine g_ald (v := zI (H (l0 + 1) l3)) zp131 rfl rfl (zW_sh1 hl0) rfl c3 (congrArg (ztag _) (zM_no (zW_ge1 hl0) (zW_fx1 hl0 _))) ?_
    refine g_al zp131 rfl rfl rfl (Int.le_trans (by decide) (zW_ge hl1)) ?_
    refine g_get (v := zR (l1 + 1)) zp131 rfl rfl (zW_sh hl1) ⟨rfl, by decide, (zW_ge hl1)⟩ (congrArg (ztag _) (zW_f0 hl1)) ?_
    refine g_il zp131 rfl rfl rfl ?_
    refine g_ald (v := zI (H (l1 + 1) l3)) zp131 rfl rfl (zW_sh1 hl1) rfl c3 (congrArg (ztag _) (zM_no (zW_ge1 hl1) (zW_fx1 hl1 _))) ?_
    refine g_icmp zp131 rfl rfl zc0 (fun c4 => ?_) (fun c4 => ?_)
    · replace h := h.1 c4
      refine g_inc (ls' := [zR l0, zR l1, zI l2, zI (w32 (l3 + 1))]) zp131 rfl rfl rfl rfl ?_
      refine g_goto zp131 rfl ?_
      exact g_weak (ls' := [zR l0, zR l1, zI l2, zI (w32 (l3 + 1))]) ⟨Or.inr rfl, Or.inr rfl, Or.inr rfl, Or.inr rfl, trivial⟩ h
    · replace h := h.2 c4
      refine g_il zp131 rfl rfl rfl ?_
      exact g_ret zp131 rfl rfl ⟨_, rfl, h⟩
