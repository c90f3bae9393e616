/-! segments: what suffices for a run from there on (by wip/p61/gen3.py) -/
theorem zp6 : zprog.getD 6 [] = zk6 := rfl
theorem x6_0 {w : zWt} {d : Nat} {H : zHt} {K : zHt → Prop} {l0 : Int} (hl0 : zisD l0)
    (h : K (zup (zup (zup (zup H l0 1 0) l0 2 100000) l0 3 30) l0 4 0)) :
    zclV w d 6 [zR l0] H K := by
  show zgo w d 6 0 [zR l0] [] H (zQV K)
  refine g_al zp6 rfl rfl rfl (Int.le_trans (by decide) (zD_ge hl0)) ?_
  refine g_ic zp6 rfl rfl ?_
  refine g_putI zp6 rfl rfl (zD_sh hl0) ⟨rfl, by decide, (zD_ge hl0)⟩ (zD_fx hl0 1 (by decide)) rfl ?_
  refine g_al zp6 rfl rfl rfl (Int.le_trans (by decide) (zD_ge hl0)) ?_
  refine g_ic zp6 rfl rfl ?_
  refine g_putI zp6 rfl rfl (zD_sh hl0) ⟨rfl, by decide, (zD_ge hl0)⟩ (zD_fx hl0 2 (by decide)) rfl ?_
  refine g_al zp6 rfl rfl rfl (Int.le_trans (by decide) (zD_ge hl0)) ?_
  refine g_ic zp6 rfl rfl ?_
  refine g_putI zp6 rfl rfl (zD_sh hl0) ⟨rfl, by decide, (zD_ge hl0)⟩ (zD_fx hl0 3 (by decide)) rfl ?_
  refine g_al zp6 rfl rfl rfl (Int.le_trans (by decide) (zD_ge hl0)) ?_
  refine g_ic zp6 rfl rfl ?_
  refine g_putI zp6 rfl rfl (zD_sh hl0) ⟨rfl, by decide, (zD_ge hl0)⟩ (zD_fx hl0 4 (by decide)) rfl ?_
  exact g_ret zp6 rfl rfl ⟨rfl, h⟩
theorem zp9 : zprog.getD 9 [] = zk9 := rfl
theorem x9_0 {w : zWt} {d : Nat} {H : zHt} {K : Int → zHt → Prop} 
    (h : K (H 32 14) H) :
    zclI w d 9 [zR 32] H K := by
  show zgo w d 9 0 [zR 32] [] H (zQI K)
  refine g_al zp9 rfl rfl rfl (by decide) ?_
  refine g_get (v := zI (H 32 14)) zp9 rfl rfl rfl ⟨rfl, by decide, (by decide)⟩ rfl ?_
  exact g_ret zp9 rfl rfl ⟨_, rfl, h⟩
theorem zp10 : zprog.getD 10 [] = zk10 := rfl
theorem x10_0 {w : zWt} {d : Nat} {H : zHt} {K : Int → zHt → Prop} {l1 : Int} {l2 : Int} {l3 : Int} {l4 : Int} {l5 : Int}
    (h : ((w32 ((H 33 8) + 20)) ≤ 400 → zclV w d 11 [zR 33, zI l1] H (fun H2 => zclV w d 11 [zR 33, zI l2] H2 (fun H4 => zclV w d 11 [zR 33, zI l3] H4 (fun H6 => zclV w d 11 [zR 33, zI l4] H6 (fun H8 => zclV w d 11 [zR 33, zI l5] H8 (fun H10 => K (H10 33 8) H10)))))) ∧ (400 < (w32 ((H 33 8) + 20)) → K (-1) H)) :
    zclI w (d + 1) 10 [zR 32, zI l1, zI l2, zI l3, zI l4, zI l5] H K := by
  show zgo w (d + 1) 10 0 [zR 32, zI l1, zI l2, zI l3, zI l4, zI l5] [] H (zQI K)
  refine g_al zp10 rfl rfl rfl (by decide) ?_
  refine g_get (v := zR 33) zp10 rfl rfl rfl ⟨rfl, by decide, (by decide)⟩ rfl ?_
  refine g_get (v := zI (H 33 8)) zp10 rfl rfl rfl ⟨rfl, by decide, (by decide)⟩ rfl ?_
  refine g_ic zp10 rfl rfl ?_
  refine g_ar (r := w32 ((H 33 8) + 20)) zp10 rfl rfl rfl ?_
  refine g_ic zp10 rfl rfl ?_
  refine g_icmp zp10 rfl rfl zc5 (fun c1 => ?_) (fun c1 => ?_)
  · replace h := h.1 c1
    refine g_al zp10 rfl rfl rfl (by decide) ?_
    refine g_get (v := zR 33) zp10 rfl rfl rfl ⟨rfl, by decide, (by decide)⟩ rfl ?_
    refine g_il zp10 rfl rfl rfl ?_
    refine g_callV (as := [zR 33, zI l1]) (rest := []) zp10 rfl rfl (Nat.succ_pos _) rfl rfl (Nat.le_of_ble_eq_true rfl) (Nat.le_of_ble_eq_true rfl) rfl rfl h (fun H2 h => ?_)
    refine g_al zp10 rfl rfl rfl (by decide) ?_
    refine g_get (v := zR 33) zp10 rfl rfl rfl ⟨rfl, by decide, (by decide)⟩ rfl ?_
    refine g_il zp10 rfl rfl rfl ?_
    refine g_callV (as := [zR 33, zI l2]) (rest := []) zp10 rfl rfl (Nat.succ_pos _) rfl rfl (Nat.le_of_ble_eq_true rfl) (Nat.le_of_ble_eq_true rfl) rfl rfl h (fun H4 h => ?_)
    refine g_al zp10 rfl rfl rfl (by decide) ?_
    refine g_get (v := zR 33) zp10 rfl rfl rfl ⟨rfl, by decide, (by decide)⟩ rfl ?_
    refine g_il zp10 rfl rfl rfl ?_
    refine g_callV (as := [zR 33, zI l3]) (rest := []) zp10 rfl rfl (Nat.succ_pos _) rfl rfl (Nat.le_of_ble_eq_true rfl) (Nat.le_of_ble_eq_true rfl) rfl rfl h (fun H6 h => ?_)
    refine g_al zp10 rfl rfl rfl (by decide) ?_
    refine g_get (v := zR 33) zp10 rfl rfl rfl ⟨rfl, by decide, (by decide)⟩ rfl ?_
    refine g_il zp10 rfl rfl rfl ?_
    refine g_callV (as := [zR 33, zI l4]) (rest := []) zp10 rfl rfl (Nat.succ_pos _) rfl rfl (Nat.le_of_ble_eq_true rfl) (Nat.le_of_ble_eq_true rfl) rfl rfl h (fun H8 h => ?_)
    refine g_al zp10 rfl rfl rfl (by decide) ?_
    refine g_get (v := zR 33) zp10 rfl rfl rfl ⟨rfl, by decide, (by decide)⟩ rfl ?_
    refine g_il zp10 rfl rfl rfl ?_
    refine g_callV (as := [zR 33, zI l5]) (rest := []) zp10 rfl rfl (Nat.succ_pos _) rfl rfl (Nat.le_of_ble_eq_true rfl) (Nat.le_of_ble_eq_true rfl) rfl rfl h (fun H10 h => ?_)
    refine g_al zp10 rfl rfl rfl (by decide) ?_
    refine g_get (v := zR 33) zp10 rfl rfl rfl ⟨rfl, by decide, (by decide)⟩ rfl ?_
    refine g_get (v := zI (H10 33 8)) zp10 rfl rfl rfl ⟨rfl, by decide, (by decide)⟩ rfl ?_
    exact g_ret zp10 rfl rfl ⟨_, rfl, h⟩
  · replace h := h.2 c1
    refine g_ic zp10 rfl rfl ?_
    exact g_ret zp10 rfl rfl ⟨_, rfl, h⟩
theorem zp11 : zprog.getD 11 [] = zk11 := rfl
theorem x11_0 {w : zWt} {d : Nat} {H : zHt} {K : zHt → Prop} {l1 : Int}
    (h : zgo w d 11 3 [zR 33, zI l1, zI 24] [] H (zQV K)) :
    zclV w d 11 [zR 33, zI l1] H K := by
  show zgo w d 11 0 [zR 33, zI l1, zJ] [] H (zQV K)
  refine g_ic zp11 rfl rfl ?_
  refine g_is (ls' := [zR 33, zI l1, zI 24]) zp11 rfl rfl (Nat.le_of_ble_eq_true rfl) rfl ?_
  exact g_weak (ls' := [zR 33, zI l1, zI 24]) ⟨Or.inr rfl, Or.inr rfl, Or.inr rfl, trivial⟩ h
theorem x11_3 {w : zWt} {d : Nat} {H : zHt} {K : zHt → Prop} {l1 : Int} {l2 : Int}
    (h : (l2 < 0 → K H) ∧ (0 ≤ l2 → (400 ≤ (H 33 8) → K H) ∧ ((H 33 8) < 400 → (0 ≤ (H 33 8) ∧ (H 33 8) < 400) ∧ zgo w d 11 3 [zR 33, zI l1, zI (w32 (l2 + (-8)))] [] (zup (zup H 34 (H 33 8) (zand (zushr l1 l2) 255)) 33 8 (w32 ((H 33 8) + 1))) (zQV K)))) :
    zgo w d 11 3 [zR 33, zI l1, zI l2] [] H (zQV K) := by
  refine g_il zp11 rfl rfl rfl ?_
  refine g_if zp11 rfl rfl zc2 (fun c1 => ?_) (fun c1 => ?_)
  · replace h := h.1 c1
    exact g_ret zp11 rfl rfl ⟨rfl, h⟩
  · replace h := h.2 c1
    refine g_al zp11 rfl rfl rfl (by decide) ?_
    refine g_get (v := zI (H 33 8)) zp11 rfl rfl rfl ⟨rfl, by decide, (by decide)⟩ rfl ?_
    refine g_al zp11 rfl rfl rfl (by decide) ?_
    refine g_get (v := zR 34) zp11 rfl rfl rfl ⟨rfl, by decide, (by decide)⟩ rfl ?_
    refine g_len zp11 rfl rfl rfl (by decide) ?_
    refine g_icmp zp11 rfl rfl zc3 (fun c2 => ?_) (fun c2 => ?_)
    · replace h := h.1 c2
      exact g_ret zp11 rfl rfl ⟨rfl, h⟩
    · replace h := h.2 c2
      refine g_al zp11 rfl rfl rfl (by decide) ?_
      refine g_get (v := zR 34) zp11 rfl rfl rfl ⟨rfl, by decide, (by decide)⟩ rfl ?_
      refine g_al zp11 rfl rfl rfl (by decide) ?_
      refine g_get (v := zI (H 33 8)) zp11 rfl rfl rfl ⟨rfl, by decide, (by decide)⟩ rfl ?_
      refine g_il zp11 rfl rfl rfl ?_
      refine g_il zp11 rfl rfl rfl ?_
      refine g_ar (r := zushr l1 l2) zp11 rfl rfl rfl ?_
      refine g_ic zp11 rfl rfl ?_
      refine g_ar (r := zand (zushr l1 l2) 255) zp11 rfl rfl rfl ?_
      obtain ⟨c3, h⟩ := h
      refine g_iast zp11 rfl rfl rfl (by decide) rfl c3 ?_
      refine g_al zp11 rfl rfl rfl (by decide) ?_
      refine g_dup zp11 rfl rfl rfl ?_
      refine g_get (v := zI (H 33 8)) zp11 rfl rfl rfl ⟨rfl, by decide, (by decide)⟩ rfl ?_
      refine g_ic zp11 rfl rfl ?_
      refine g_ar (r := w32 ((H 33 8) + 1)) zp11 rfl rfl rfl ?_
      refine g_putI zp11 rfl rfl rfl ⟨rfl, by decide, (by decide)⟩ rfl rfl ?_
      refine g_inc (ls' := [zR 33, zI l1, zI (w32 (l2 + (-8)))]) zp11 rfl rfl rfl rfl ?_
      refine g_goto zp11 rfl ?_
      exact g_weak (ls' := [zR 33, zI l1, zI (w32 (l2 + (-8)))]) ⟨Or.inr rfl, Or.inr rfl, Or.inr rfl, trivial⟩ h
theorem zp12 : zprog.getD 12 [] = zk12 := rfl
theorem x12_0 {w : zWt} {d : Nat} {H : zHt} {K : Int → zHt → Prop} {l1 : Int}
    (h : (l1 < 0 → zclI w d 13 [zR 32, zI 1] H (fun x3 H2 => K x3 H2)) ∧ (0 ≤ l1 → (l1 ≤ (H 33 8) → zclI w d 14 [zR 33, zI l1, zR 42] H (fun x6 H5 => (¬ x6 = 0 → zclV w d 37 [zR 40, zR 42] (zup (zup H5 32 12 (H5 33 9)) 32 13 (H5 33 10)) (fun H8 => zclV w d 38 [zR 32] (zup H8 32 11 0) (fun H10 => zclI w d 39 [zR 32, zI (H10 40 1)] H10 (fun x13 H12 => K x13 H12)))) ∧ (x6 = 0 → zclI w d 13 [zR 32, zI 9] (zup (zup H5 32 12 (H5 33 9)) 32 13 (H5 33 10)) (fun x15 H14 => K x15 H14)))) ∧ ((H 33 8) < l1 → zclI w d 13 [zR 32, zI 1] H (fun x17 H16 => K x17 H16)))) :
    zclI w (d + 1) 12 [zR 32, zI l1] H K := by
  show zgo w (d + 1) 12 0 [zR 32, zI l1, zJ] [] H (zQI K)
  refine g_il zp12 rfl rfl rfl ?_
  refine g_if zp12 rfl rfl zc2 (fun c1 => ?_) (fun c1 => ?_)
  · replace h := h.1 c1
    refine g_al zp12 rfl rfl rfl (by decide) ?_
    refine g_ic zp12 rfl rfl ?_
    refine g_callI (as := [zR 32, zI 1]) (rest := []) zp12 rfl rfl (Nat.succ_pos _) rfl rfl (Nat.le_of_ble_eq_true rfl) (Nat.le_of_ble_eq_true rfl) rfl rfl h (fun x3 H2 h => ?_)
    exact g_ret zp12 rfl rfl ⟨_, rfl, h⟩
  · replace h := h.2 c1
    refine g_il zp12 rfl rfl rfl ?_
    refine g_al zp12 rfl rfl rfl (by decide) ?_
    refine g_get (v := zR 33) zp12 rfl rfl rfl ⟨rfl, by decide, (by decide)⟩ rfl ?_
    refine g_get (v := zI (H 33 8)) zp12 rfl rfl rfl ⟨rfl, by decide, (by decide)⟩ rfl ?_
    refine g_icmp zp12 rfl rfl zc5 (fun c4 => ?_) (fun c4 => ?_)
    · replace h := h.1 c4
      refine g_al zp12 rfl rfl rfl (by decide) ?_
      refine g_get (v := zR 33) zp12 rfl rfl rfl ⟨rfl, by decide, (by decide)⟩ rfl ?_
      refine g_il zp12 rfl rfl rfl ?_
      refine g_al zp12 rfl rfl rfl (by decide) ?_
      refine g_get (v := zR 42) zp12 rfl rfl rfl ⟨rfl, by decide, (by decide)⟩ rfl ?_
      refine g_callI (as := [zR 33, zI l1, zR 42]) (rest := []) zp12 rfl rfl (Nat.succ_pos _) rfl rfl (Nat.le_of_ble_eq_true rfl) (Nat.le_of_ble_eq_true rfl) rfl rfl h (fun x6 H5 h => ?_)
      refine g_is (ls' := [zR 32, zI l1, zI x6]) zp12 rfl rfl (Nat.le_of_ble_eq_true rfl) rfl ?_
      refine g_al zp12 rfl rfl rfl (by decide) ?_
      refine g_al zp12 rfl rfl rfl (by decide) ?_
      refine g_get (v := zR 33) zp12 rfl rfl rfl ⟨rfl, by decide, (by decide)⟩ rfl ?_
      refine g_get (v := zI (H5 33 9)) zp12 rfl rfl rfl ⟨rfl, by decide, (by decide)⟩ rfl ?_
      refine g_putI zp12 rfl rfl rfl ⟨rfl, by decide, (by decide)⟩ rfl rfl ?_
      refine g_al zp12 rfl rfl rfl (by decide) ?_
      refine g_al zp12 rfl rfl rfl (by decide) ?_
      refine g_get (v := zR 33) zp12 rfl rfl rfl ⟨rfl, by decide, (by decide)⟩ rfl ?_
      refine g_get (v := zI (H5 33 10)) zp12 rfl rfl rfl ⟨rfl, by decide, (by decide)⟩ rfl ?_
      refine g_putI zp12 rfl rfl rfl ⟨rfl, by decide, (by decide)⟩ rfl rfl ?_
      refine g_il zp12 rfl rfl rfl ?_
      refine g_if zp12 rfl rfl zc1 (fun c7 => ?_) (fun c7 => ?_)
      · replace h := h.1 c7
        refine g_al zp12 rfl rfl rfl (by decide) ?_
        refine g_get (v := zR 40) zp12 rfl rfl rfl ⟨rfl, by decide, (by decide)⟩ rfl ?_
        refine g_al zp12 rfl rfl rfl (by decide) ?_
        refine g_get (v := zR 42) zp12 rfl rfl rfl ⟨rfl, by decide, (by decide)⟩ rfl ?_
        refine g_callV (as := [zR 40, zR 42]) (rest := []) zp12 rfl rfl (Nat.succ_pos _) rfl rfl (Nat.le_of_ble_eq_true rfl) (Nat.le_of_ble_eq_true rfl) rfl rfl h (fun H8 h => ?_)
        refine g_al zp12 rfl rfl rfl (by decide) ?_
        refine g_ic zp12 rfl rfl ?_
        refine g_putI zp12 rfl rfl rfl ⟨rfl, by decide, (by decide)⟩ rfl rfl ?_
        refine g_al zp12 rfl rfl rfl (by decide) ?_
        refine g_callV (as := [zR 32]) (rest := []) zp12 rfl rfl (Nat.succ_pos _) rfl rfl (Nat.le_of_ble_eq_true rfl) (Nat.le_of_ble_eq_true rfl) rfl rfl h (fun H10 h => ?_)
        refine g_al zp12 rfl rfl rfl (by decide) ?_
        refine g_al zp12 rfl rfl rfl (by decide) ?_
        refine g_get (v := zR 40) zp12 rfl rfl rfl ⟨rfl, by decide, (by decide)⟩ rfl ?_
        refine g_get (v := zI (H10 40 1)) zp12 rfl rfl rfl ⟨rfl, by decide, (by decide)⟩ rfl ?_
        refine g_callI (as := [zR 32, zI (H10 40 1)]) (rest := []) zp12 rfl rfl (Nat.succ_pos _) rfl rfl (Nat.le_of_ble_eq_true rfl) (Nat.le_of_ble_eq_true rfl) rfl rfl h (fun x13 H12 h => ?_)
        exact g_ret zp12 rfl rfl ⟨_, rfl, h⟩
      · replace h := h.2 c7
        refine g_al zp12 rfl rfl rfl (by decide) ?_
        refine g_ic zp12 rfl rfl ?_
        refine g_callI (as := [zR 32, zI 9]) (rest := []) zp12 rfl rfl (Nat.succ_pos _) rfl rfl (Nat.le_of_ble_eq_true rfl) (Nat.le_of_ble_eq_true rfl) rfl rfl h (fun x15 H14 h => ?_)
        exact g_ret zp12 rfl rfl ⟨_, rfl, h⟩
    · replace h := h.2 c4
      refine g_al zp12 rfl rfl rfl (by decide) ?_
      refine g_ic zp12 rfl rfl ?_
      refine g_callI (as := [zR 32, zI 1]) (rest := []) zp12 rfl rfl (Nat.succ_pos _) rfl rfl (Nat.le_of_ble_eq_true rfl) (Nat.le_of_ble_eq_true rfl) rfl rfl h (fun x17 H16 h => ?_)
      exact g_ret zp12 rfl rfl ⟨_, rfl, h⟩
theorem zp13 : zprog.getD 13 [] = zk13 := rfl
theorem x13_0 {w : zWt} {d : Nat} {H : zHt} {K : Int → zHt → Prop} {l1 : Int}
    (h : K (-1) (zup H 32 14 l1)) :
    zclI w d 13 [zR 32, zI l1] H K := by
  show zgo w d 13 0 [zR 32, zI l1] [] H (zQI K)
  refine g_al zp13 rfl rfl rfl (by decide) ?_
  refine g_il zp13 rfl rfl rfl ?_
  refine g_putI zp13 rfl rfl rfl ⟨rfl, by decide, (by decide)⟩ rfl rfl ?_
  refine g_ic zp13 rfl rfl ?_
  exact g_ret zp13 rfl rfl ⟨_, rfl, h⟩
theorem zp14 : zprog.getD 14 [] = zk14 := rfl
theorem x14_0 {w : zWt} {d : Nat} {H : zHt} {K : Int → zHt → Prop} {l1 : Int} {l2 : Int} (hl2 : zisD l2)
    (h : zclV w d 6 [zR l2] (zup (zup (zup (zup (zup H 33 2 (if H 33 8 < l1 then H 33 8 else l1)) 33 8 0) 33 3 0) 33 9 0) 33 10 (-1)) (fun H1 => zgo w (d + 1) 14 38 [zR 33, zJ, zR l2, zI 0] [] H1 (zQI K))) :
    zclI w (d + 1) 14 [zR 33, zI l1, zR l2] H K := by
  show zgo w (d + 1) 14 0 [zR 33, zI l1, zR l2, zJ] [] H (zQI K)
  refine g_al zp14 rfl rfl rfl (by decide) ?_
  refine g_il zp14 rfl rfl rfl ?_
  refine g_al zp14 rfl rfl rfl (by decide) ?_
  refine g_get (v := zI (H 33 8)) zp14 rfl rfl rfl ⟨rfl, by decide, (by decide)⟩ rfl ?_
  refine g_mmin zp14 rfl rfl (Nat.le_of_ble_eq_true rfl) ?_
  refine g_putI zp14 rfl rfl rfl ⟨rfl, by decide, (by decide)⟩ rfl rfl ?_
  refine g_al zp14 rfl rfl rfl (by decide) ?_
  refine g_ic zp14 rfl rfl ?_
  refine g_putI zp14 rfl rfl rfl ⟨rfl, by decide, (by decide)⟩ rfl rfl ?_
  refine g_al zp14 rfl rfl rfl (by decide) ?_
  refine g_ic zp14 rfl rfl ?_
  refine g_putI zp14 rfl rfl rfl ⟨rfl, by decide, (by decide)⟩ rfl rfl ?_
  refine g_al zp14 rfl rfl rfl (by decide) ?_
  refine g_ic zp14 rfl rfl ?_
  refine g_putI zp14 rfl rfl rfl ⟨rfl, by decide, (by decide)⟩ rfl rfl ?_
  refine g_al zp14 rfl rfl rfl (by decide) ?_
  refine g_ic zp14 rfl rfl ?_
  refine g_putI zp14 rfl rfl rfl ⟨rfl, by decide, (by decide)⟩ rfl rfl ?_
  refine g_al zp14 rfl rfl rfl (Int.le_trans (by decide) (zD_ge hl2)) ?_
  refine g_callV (as := [zR l2]) (rest := []) zp14 rfl rfl (Nat.succ_pos _) rfl rfl (Nat.le_of_ble_eq_true rfl) (Nat.le_of_ble_eq_true rfl) (zrecv_of (zD_sh hl2) rfl) rfl h (fun H1 h => ?_)
  refine g_ic zp14 rfl rfl ?_
  refine g_is (ls' := [zR 33, zI l1, zR l2, zI 0]) zp14 rfl rfl (Nat.le_of_ble_eq_true rfl) rfl ?_
  exact g_weak (ls' := [zR 33, zJ, zR l2, zI 0]) ⟨Or.inr rfl, Or.inl rfl, Or.inr rfl, Or.inr rfl, trivial⟩ h
theorem x14_38 {w : zWt} {d : Nat} {H : zHt} {K : Int → zHt → Prop} {l2 : Int} (hl2 : zisD l2) {l3 : Int}
    (h : ((H 33 2) < l3 → K 1 H) ∧ (l3 ≤ (H 33 2) → zclV w d 15 [zR 33] H (fun H2 => (¬ (H2 33 5) = 0 → zclI w d 19 [zR 33, zR l2] H2 (fun x6 H5 => (¬ x6 = 0 → zgo w (d + 1) 14 38 [zR 33, zJ, zR l2, zI (w32 (l3 + 1))] [] H5 (zQI K)) ∧ (x6 = 0 → K 0 H5))) ∧ ((H2 33 5) = 0 → K 1 H2)))) :
    zgo w (d + 1) 14 38 [zR 33, zJ, zR l2, zI l3] [] H (zQI K) := by
  refine g_il zp14 rfl rfl rfl ?_
  refine g_al zp14 rfl rfl rfl (by decide) ?_
  refine g_get (v := zI (H 33 2)) zp14 rfl rfl rfl ⟨rfl, by decide, (by decide)⟩ rfl ?_
  refine g_icmp zp14 rfl rfl zc4 (fun c1 => ?_) (fun c1 => ?_)
  · replace h := h.1 c1
    refine g_ic zp14 rfl rfl ?_
    exact g_ret zp14 rfl (zret_b (by decide)) ⟨_, rfl, h⟩
  · replace h := h.2 c1
    refine g_al zp14 rfl rfl rfl (by decide) ?_
    refine g_callV (as := [zR 33]) (rest := []) zp14 rfl rfl (Nat.succ_pos _) rfl rfl (Nat.le_of_ble_eq_true rfl) (Nat.le_of_ble_eq_true rfl) rfl rfl h (fun H2 h => ?_)
    refine g_al zp14 rfl rfl rfl (by decide) ?_
    refine g_get (v := zI (H2 33 5)) zp14 rfl rfl rfl ⟨rfl, by decide, (by decide)⟩ rfl ?_
    refine g_if zp14 rfl rfl zc1 (fun c4 => ?_) (fun c4 => ?_)
    · replace h := h.1 c4
      refine g_al zp14 rfl rfl rfl (by decide) ?_
      refine g_al zp14 rfl rfl rfl (Int.le_trans (by decide) (zD_ge hl2)) ?_
      refine g_callI (as := [zR 33, zR l2]) (rest := []) zp14 rfl rfl (Nat.succ_pos _) rfl rfl (Nat.le_of_ble_eq_true rfl) (Nat.le_of_ble_eq_true rfl) rfl rfl h (fun x6 H5 h => ?_)
      refine g_if zp14 rfl rfl zc1 (fun c7 => ?_) (fun c7 => ?_)
      · replace h := h.1 c7
        refine g_inc (ls' := [zR 33, zJ, zR l2, zI (w32 (l3 + 1))]) zp14 rfl rfl rfl rfl ?_
        refine g_goto zp14 rfl ?_
        exact g_weak (ls' := [zR 33, zJ, zR l2, zI (w32 (l3 + 1))]) ⟨Or.inr rfl, Or.inr rfl, Or.inr rfl, Or.inr rfl, trivial⟩ h
      · replace h := h.2 c7
        refine g_ic zp14 rfl rfl ?_
        exact g_ret zp14 rfl (zret_b (by decide)) ⟨_, rfl, h⟩
    · replace h := h.2 c4
      refine g_ic zp14 rfl rfl ?_
      exact g_ret zp14 rfl (zret_b (by decide)) ⟨_, rfl, h⟩
theorem zp15 : zprog.getD 15 [] = zk15 := rfl
theorem x15_0 {w : zWt} {d : Nat} {H : zHt} {K : zHt → Prop} 
    (h : ((H 33 2) ≤ (H 33 3) → zgo w (d + 1) 15 52 [zR 33, zJ, zJ] [] H (zQV K)) ∧ ((H 33 3) < (H 33 2) → (0 ≤ (H 33 3) ∧ (H 33 3) < 400) ∧ ((H 34 (H 33 3)) = 10 → zgo w (d + 1) 15 0 [zR 33, zJ, zJ] [] (zup H 33 3 (w32 ((H 33 3) + 1))) (zQV K)) ∧ (¬ (H 34 (H 33 3)) = 10 → (¬ (H 34 (H 33 3)) = 32 → zgo w (d + 1) 15 52 [zR 33, zJ, zJ] [] H (zQV K)) ∧ ((H 34 (H 33 3)) = 32 → zgo w (d + 1) 15 0 [zR 33, zJ, zJ] [] (zup H 33 3 (w32 ((H 33 3) + 1))) (zQV K))))) :
    zclV w (d + 1) 15 [zR 33] H K := by
  show zgo w (d + 1) 15 0 [zR 33, zJ, zJ] [] H (zQV K)
  refine g_al zp15 rfl rfl rfl (by decide) ?_
  refine g_get (v := zI (H 33 3)) zp15 rfl rfl rfl ⟨rfl, by decide, (by decide)⟩ rfl ?_
  refine g_al zp15 rfl rfl rfl (by decide) ?_
  refine g_get (v := zI (H 33 2)) zp15 rfl rfl rfl ⟨rfl, by decide, (by decide)⟩ rfl ?_
  refine g_icmp zp15 rfl rfl zc3 (fun c1 => ?_) (fun c1 => ?_)
  · replace h := h.1 c1
    exact g_weak (ls' := [zR 33, zJ, zJ]) ⟨Or.inr rfl, Or.inr rfl, Or.inr rfl, trivial⟩ h
  · replace h := h.2 c1
    refine g_al zp15 rfl rfl rfl (by decide) ?_
    refine g_get (v := zR 34) zp15 rfl rfl rfl ⟨rfl, by decide, (by decide)⟩ rfl ?_
    refine g_al zp15 rfl rfl rfl (by decide) ?_
    refine g_get (v := zI (H 33 3)) zp15 rfl rfl rfl ⟨rfl, by decide, (by decide)⟩ rfl ?_
    obtain ⟨c2, h⟩ := h
    refine g_ald (v := zI (H 34 (H 33 3))) zp15 rfl rfl rfl rfl c2 rfl ?_
    refine g_ic zp15 rfl rfl ?_
    refine g_icmp zp15 rfl rfl zc0 (fun c3 => ?_) (fun c3 => ?_)
    · replace h := h.1 c3
      refine g_al zp15 rfl rfl rfl (by decide) ?_
      refine g_dup zp15 rfl rfl rfl ?_
      refine g_get (v := zI (H 33 3)) zp15 rfl rfl rfl ⟨rfl, by decide, (by decide)⟩ rfl ?_
      refine g_ic zp15 rfl rfl ?_
      refine g_ar (r := w32 ((H 33 3) + 1)) zp15 rfl rfl rfl ?_
      refine g_putI zp15 rfl rfl rfl ⟨rfl, by decide, (by decide)⟩ rfl rfl ?_
      refine g_goto zp15 rfl ?_
      exact g_weak (ls' := [zR 33, zJ, zJ]) ⟨Or.inr rfl, Or.inr rfl, Or.inr rfl, trivial⟩ h
    · replace h := h.2 c3
      refine g_al zp15 rfl rfl rfl (by decide) ?_
      refine g_get (v := zR 34) zp15 rfl rfl rfl ⟨rfl, by decide, (by decide)⟩ rfl ?_
      refine g_al zp15 rfl rfl rfl (by decide) ?_
      refine g_get (v := zI (H 33 3)) zp15 rfl rfl rfl ⟨rfl, by decide, (by decide)⟩ rfl ?_
      refine g_ald (v := zI (H 34 (H 33 3))) zp15 rfl rfl rfl rfl c2 rfl ?_
      refine g_ic zp15 rfl rfl ?_
      refine g_icmp zp15 rfl rfl zc1 (fun c4 => ?_) (fun c4 => ?_)
      · replace h := h.1 c4
        exact g_weak (ls' := [zR 33, zJ, zJ]) ⟨Or.inr rfl, Or.inr rfl, Or.inr rfl, trivial⟩ h
      · replace h := h.2 c4
        refine g_al zp15 rfl rfl rfl (by decide) ?_
        refine g_dup zp15 rfl rfl rfl ?_
        refine g_get (v := zI (H 33 3)) zp15 rfl rfl rfl ⟨rfl, by decide, (by decide)⟩ rfl ?_
        refine g_ic zp15 rfl rfl ?_
        refine g_ar (r := w32 ((H 33 3) + 1)) zp15 rfl rfl rfl ?_
        refine g_putI zp15 rfl rfl rfl ⟨rfl, by decide, (by decide)⟩ rfl rfl ?_
        refine g_goto zp15 rfl ?_
        exact g_weak (ls' := [zR 33, zJ, zJ]) ⟨Or.inr rfl, Or.inr rfl, Or.inr rfl, trivial⟩ h
theorem x15_52 {w : zWt} {d : Nat} {H : zHt} {K : zHt → Prop} 
    (h : zclI w d 16 [zR 33, zI 97, zI 122] (zup (zup (zup H 33 4 (H 33 3)) 33 6 0) 33 7 0) (fun x2 H1 => zclI w d 16 [zR 33, zI 48, zI 57] H1 (fun x4 H3 => ((H3 33 3) < (H3 33 2) → (x2 ≤ (H3 33 3) → (x4 ≤ (H3 33 3) → (0 ≤ (H3 33 3) ∧ (H3 33 3) < 400) ∧ (¬ (H3 34 (H3 33 3)) = 59 → K (zup (zup H3 33 5 4) 33 3 (w32 ((H3 33 3) + 1)))) ∧ ((H3 34 (H3 33 3)) = 59 → K (zup (zup H3 33 5 3) 33 3 (w32 ((H3 33 3) + 1))))) ∧ ((H3 33 3) < x4 → zclV w d 18 [zR 33, zI x4] H3 (fun H10 => K H10))) ∧ ((H3 33 3) < x2 → zclV w d 17 [zR 33, zI x2] H3 (fun H12 => K H12))) ∧ ((H3 33 2) ≤ (H3 33 3) → K (zup H3 33 5 0))))) :
    zgo w (d + 1) 15 52 [zR 33, zJ, zJ] [] H (zQV K) := by
  refine g_al zp15 rfl rfl rfl (by decide) ?_
  refine g_al zp15 rfl rfl rfl (by decide) ?_
  refine g_get (v := zI (H 33 3)) zp15 rfl rfl rfl ⟨rfl, by decide, (by decide)⟩ rfl ?_
  refine g_putI zp15 rfl rfl rfl ⟨rfl, by decide, (by decide)⟩ rfl rfl ?_
  refine g_al zp15 rfl rfl rfl (by decide) ?_
  refine g_lc zp15 rfl rfl ?_
  refine g_putL zp15 rfl rfl rfl ⟨rfl, by decide, (by decide)⟩ rfl rfl ?_
  refine g_al zp15 rfl rfl rfl (by decide) ?_
  refine g_ic zp15 rfl rfl ?_
  refine g_putI zp15 rfl rfl rfl ⟨rfl, by decide, (by decide)⟩ rfl rfl ?_
  refine g_al zp15 rfl rfl rfl (by decide) ?_
  refine g_ic zp15 rfl rfl ?_
  refine g_ic zp15 rfl rfl ?_
  refine g_callI (as := [zR 33, zI 97, zI 122]) (rest := []) zp15 rfl rfl (Nat.succ_pos _) rfl rfl (Nat.le_of_ble_eq_true rfl) (Nat.le_of_ble_eq_true rfl) rfl rfl h (fun x2 H1 h => ?_)
  refine g_is (ls' := [zR 33, zI x2, zJ]) zp15 rfl rfl (Nat.le_of_ble_eq_true rfl) rfl ?_
  refine g_al zp15 rfl rfl rfl (by decide) ?_
  refine g_ic zp15 rfl rfl ?_
  refine g_ic zp15 rfl rfl ?_
  refine g_callI (as := [zR 33, zI 48, zI 57]) (rest := []) zp15 rfl rfl (Nat.succ_pos _) rfl rfl (Nat.le_of_ble_eq_true rfl) (Nat.le_of_ble_eq_true rfl) rfl rfl h (fun x4 H3 h => ?_)
  refine g_is (ls' := [zR 33, zI x2, zI x4]) zp15 rfl rfl (Nat.le_of_ble_eq_true rfl) rfl ?_
  refine g_al zp15 rfl rfl rfl (by decide) ?_
  refine g_get (v := zI (H3 33 3)) zp15 rfl rfl rfl ⟨rfl, by decide, (by decide)⟩ rfl ?_
  refine g_al zp15 rfl rfl rfl (by decide) ?_
  refine g_get (v := zI (H3 33 2)) zp15 rfl rfl rfl ⟨rfl, by decide, (by decide)⟩ rfl ?_
  refine g_icmp zp15 rfl rfl zc2 (fun c5 => ?_) (fun c5 => ?_)
  · replace h := h.1 c5
    refine g_il zp15 rfl rfl rfl ?_
    refine g_al zp15 rfl rfl rfl (by decide) ?_
    refine g_get (v := zI (H3 33 3)) zp15 rfl rfl rfl ⟨rfl, by decide, (by decide)⟩ rfl ?_
    refine g_icmp zp15 rfl rfl zc5 (fun c6 => ?_) (fun c6 => ?_)
    · replace h := h.1 c6
      refine g_il zp15 rfl rfl rfl ?_
      refine g_al zp15 rfl rfl rfl (by decide) ?_
      refine g_get (v := zI (H3 33 3)) zp15 rfl rfl rfl ⟨rfl, by decide, (by decide)⟩ rfl ?_
      refine g_icmp zp15 rfl rfl zc5 (fun c7 => ?_) (fun c7 => ?_)
      · replace h := h.1 c7
        refine g_al zp15 rfl rfl rfl (by decide) ?_
        refine g_al zp15 rfl rfl rfl (by decide) ?_
        refine g_get (v := zR 34) zp15 rfl rfl rfl ⟨rfl, by decide, (by decide)⟩ rfl ?_
        refine g_al zp15 rfl rfl rfl (by decide) ?_
        refine g_get (v := zI (H3 33 3)) zp15 rfl rfl rfl ⟨rfl, by decide, (by decide)⟩ rfl ?_
        obtain ⟨c8, h⟩ := h
        refine g_ald (v := zI (H3 34 (H3 33 3))) zp15 rfl rfl rfl rfl c8 rfl ?_
        refine g_ic zp15 rfl rfl ?_
        refine g_icmp zp15 rfl rfl zc1 (fun c9 => ?_) (fun c9 => ?_)
        · replace h := h.1 c9
          refine g_ic zp15 rfl rfl ?_
          refine g_putI zp15 rfl rfl rfl ⟨rfl, by decide, (by decide)⟩ rfl rfl ?_
          refine g_al zp15 rfl rfl rfl (by decide) ?_
          refine g_dup zp15 rfl rfl rfl ?_
          refine g_get (v := zI (H3 33 3)) zp15 rfl rfl rfl ⟨rfl, by decide, (by decide)⟩ rfl ?_
          refine g_ic zp15 rfl rfl ?_
          refine g_ar (r := w32 ((H3 33 3) + 1)) zp15 rfl rfl rfl ?_
          refine g_putI zp15 rfl rfl rfl ⟨rfl, by decide, (by decide)⟩ rfl rfl ?_
          exact g_ret zp15 rfl rfl ⟨rfl, h⟩
        · replace h := h.2 c9
          refine g_ic zp15 rfl rfl ?_
          refine g_goto zp15 rfl ?_
          refine g_putI zp15 rfl rfl rfl ⟨rfl, by decide, (by decide)⟩ rfl rfl ?_
          refine g_al zp15 rfl rfl rfl (by decide) ?_
          refine g_dup zp15 rfl rfl rfl ?_
          refine g_get (v := zI (H3 33 3)) zp15 rfl rfl rfl ⟨rfl, by decide, (by decide)⟩ rfl ?_
          refine g_ic zp15 rfl rfl ?_
          refine g_ar (r := w32 ((H3 33 3) + 1)) zp15 rfl rfl rfl ?_
          refine g_putI zp15 rfl rfl rfl ⟨rfl, by decide, (by decide)⟩ rfl rfl ?_
          exact g_ret zp15 rfl rfl ⟨rfl, h⟩
      · replace h := h.2 c7
        refine g_al zp15 rfl rfl rfl (by decide) ?_
        refine g_il zp15 rfl rfl rfl ?_
        refine g_callV (as := [zR 33, zI x4]) (rest := []) zp15 rfl rfl (Nat.succ_pos _) rfl rfl (Nat.le_of_ble_eq_true rfl) (Nat.le_of_ble_eq_true rfl) rfl rfl h (fun H10 h => ?_)
        refine g_goto zp15 rfl ?_
        exact g_ret zp15 rfl rfl ⟨rfl, h⟩
    · replace h := h.2 c6
      refine g_al zp15 rfl rfl rfl (by decide) ?_
      refine g_il zp15 rfl rfl rfl ?_
      refine g_callV (as := [zR 33, zI x2]) (rest := []) zp15 rfl rfl (Nat.succ_pos _) rfl rfl (Nat.le_of_ble_eq_true rfl) (Nat.le_of_ble_eq_true rfl) rfl rfl h (fun H12 h => ?_)
      refine g_goto zp15 rfl ?_
      exact g_ret zp15 rfl rfl ⟨rfl, h⟩
  · replace h := h.2 c5
    refine g_al zp15 rfl rfl rfl (by decide) ?_
    refine g_ic zp15 rfl rfl ?_
    refine g_putI zp15 rfl rfl rfl ⟨rfl, by decide, (by decide)⟩ rfl rfl ?_
    refine g_goto zp15 rfl ?_
    exact g_ret zp15 rfl rfl ⟨rfl, h⟩
theorem zp16 : zprog.getD 16 [] = zk16 := rfl
theorem x16_0 {w : zWt} {d : Nat} {H : zHt} {K : Int → zHt → Prop} {l1 : Int} {l2 : Int}
    (h : zgo w d 16 5 [zR 33, zI l1, zI l2, zI (H 33 3)] [] H (zQI K)) :
    zclI w d 16 [zR 33, zI l1, zI l2] H K := by
  show zgo w d 16 0 [zR 33, zI l1, zI l2, zJ] [] H (zQI K)
  refine g_al zp16 rfl rfl rfl (by decide) ?_
  refine g_get (v := zI (H 33 3)) zp16 rfl rfl rfl ⟨rfl, by decide, (by decide)⟩ rfl ?_
  refine g_is (ls' := [zR 33, zI l1, zI l2, zI (H 33 3)]) zp16 rfl rfl (Nat.le_of_ble_eq_true rfl) rfl ?_
  exact g_weak (ls' := [zR 33, zI l1, zI l2, zI (H 33 3)]) ⟨Or.inr rfl, Or.inr rfl, Or.inr rfl, Or.inr rfl, trivial⟩ h
theorem x16_5 {w : zWt} {d : Nat} {H : zHt} {K : Int → zHt → Prop} {l1 : Int} {l2 : Int} {l3 : Int}
    (h : ((H 33 2) ≤ l3 → K l3 H) ∧ (l3 < (H 33 2) → (0 ≤ l3 ∧ l3 < 400) ∧ ((H 34 l3) < l1 → K l3 H) ∧ (l1 ≤ (H 34 l3) → (l2 < (H 34 l3) → K l3 H) ∧ ((H 34 l3) ≤ l2 → zgo w d 16 5 [zR 33, zI l1, zI l2, zI (w32 (l3 + 1))] [] H (zQI K))))) :
    zgo w d 16 5 [zR 33, zI l1, zI l2, zI l3] [] H (zQI K) := by
  refine g_il zp16 rfl rfl rfl ?_
  refine g_al zp16 rfl rfl rfl (by decide) ?_
  refine g_get (v := zI (H 33 2)) zp16 rfl rfl rfl ⟨rfl, by decide, (by decide)⟩ rfl ?_
  refine g_icmp zp16 rfl rfl zc3 (fun c1 => ?_) (fun c1 => ?_)
  · replace h := h.1 c1
    refine g_il zp16 rfl rfl rfl ?_
    exact g_ret zp16 rfl rfl ⟨_, rfl, h⟩
  · replace h := h.2 c1
    refine g_al zp16 rfl rfl rfl (by decide) ?_
    refine g_get (v := zR 34) zp16 rfl rfl rfl ⟨rfl, by decide, (by decide)⟩ rfl ?_
    refine g_il zp16 rfl rfl rfl ?_
    obtain ⟨c2, h⟩ := h
    refine g_ald (v := zI (H 34 l3)) zp16 rfl rfl rfl rfl c2 rfl ?_
    refine g_il zp16 rfl rfl rfl ?_
    refine g_icmp zp16 rfl rfl zc2 (fun c3 => ?_) (fun c3 => ?_)
    · replace h := h.1 c3
      refine g_il zp16 rfl rfl rfl ?_
      exact g_ret zp16 rfl rfl ⟨_, rfl, h⟩
    · replace h := h.2 c3
      refine g_al zp16 rfl rfl rfl (by decide) ?_
      refine g_get (v := zR 34) zp16 rfl rfl rfl ⟨rfl, by decide, (by decide)⟩ rfl ?_
      refine g_il zp16 rfl rfl rfl ?_
      refine g_ald (v := zI (H 34 l3)) zp16 rfl rfl rfl rfl c2 rfl ?_
      refine g_il zp16 rfl rfl rfl ?_
      refine g_icmp zp16 rfl rfl zc4 (fun c4 => ?_) (fun c4 => ?_)
      · replace h := h.1 c4
        refine g_il zp16 rfl rfl rfl ?_
        exact g_ret zp16 rfl rfl ⟨_, rfl, h⟩
      · replace h := h.2 c4
        refine g_inc (ls' := [zR 33, zI l1, zI l2, zI (w32 (l3 + 1))]) zp16 rfl rfl rfl rfl ?_
        refine g_goto zp16 rfl ?_
        exact g_weak (ls' := [zR 33, zI l1, zI l2, zI (w32 (l3 + 1))]) ⟨Or.inr rfl, Or.inr rfl, Or.inr rfl, Or.inr rfl, trivial⟩ h
theorem zp17 : zprog.getD 17 [] = zk17 := rfl
theorem x17_0 {w : zWt} {d : Nat} {H : zHt} {K : zHt → Prop} {l1 : Int}
    (h : (8 < (w32 (l1 - (H 33 4))) → zgo w d 17 20 [zR 33, zI l1] [] (zup H 33 5 4) (zQV K)) ∧ ((w32 (l1 - (H 33 4))) ≤ 8 → zgo w d 17 20 [zR 33, zI l1] [] (zup H 33 5 1) (zQV K))) :
    zclV w d 17 [zR 33, zI l1] H K := by
  show zgo w d 17 0 [zR 33, zI l1] [] H (zQV K)
  refine g_al zp17 rfl rfl rfl (by decide) ?_
  refine g_il zp17 rfl rfl rfl ?_
  refine g_al zp17 rfl rfl rfl (by decide) ?_
  refine g_get (v := zI (H 33 4)) zp17 rfl rfl rfl ⟨rfl, by decide, (by decide)⟩ rfl ?_
  refine g_ar (r := w32 (l1 - (H 33 4))) zp17 rfl rfl rfl ?_
  refine g_ic zp17 rfl rfl ?_
  refine g_icmp zp17 rfl rfl zc4 (fun c1 => ?_) (fun c1 => ?_)
  · replace h := h.1 c1
    refine g_ic zp17 rfl rfl ?_
    refine g_putI zp17 rfl rfl rfl ⟨rfl, by decide, (by decide)⟩ rfl rfl ?_
    exact g_weak (ls' := [zR 33, zI l1]) ⟨Or.inr rfl, Or.inr rfl, trivial⟩ h
  · replace h := h.2 c1
    refine g_ic zp17 rfl rfl ?_
    refine g_goto zp17 rfl ?_
    refine g_putI zp17 rfl rfl rfl ⟨rfl, by decide, (by decide)⟩ rfl rfl ?_
    exact g_weak (ls' := [zR 33, zI l1]) ⟨Or.inr rfl, Or.inr rfl, trivial⟩ h
theorem x17_20 {w : zWt} {d : Nat} {H : zHt} {K : zHt → Prop} {l1 : Int}
    (h : (l1 ≤ (H 33 3) → K (zup H 33 3 l1)) ∧ ((H 33 3) < l1 → (¬ (H 33 5) = 1 → K (zup H 33 3 l1)) ∧ ((H 33 5) = 1 → (0 ≤ (H 33 3) ∧ (H 33 3) < 400) ∧ zgo w d 17 20 [zR 33, zI l1] [] (zup (zup H 33 6 (w64 ((w64 ((H 33 6) * 32)) + (w32 ((w32 ((H 34 (H 33 3)) - 97)) + 1))))) 33 3 (w32 ((H 33 3) + 1))) (zQV K)))) :
    zgo w d 17 20 [zR 33, zI l1] [] H (zQV K) := by
  refine g_al zp17 rfl rfl rfl (by decide) ?_
  refine g_get (v := zI (H 33 3)) zp17 rfl rfl rfl ⟨rfl, by decide, (by decide)⟩ rfl ?_
  refine g_il zp17 rfl rfl rfl ?_
  refine g_icmp zp17 rfl rfl zc3 (fun c1 => ?_) (fun c1 => ?_)
  · replace h := h.1 c1
    refine g_al zp17 rfl rfl rfl (by decide) ?_
    refine g_il zp17 rfl rfl rfl ?_
    refine g_putI zp17 rfl rfl rfl ⟨rfl, by decide, (by decide)⟩ rfl rfl ?_
    exact g_ret zp17 rfl rfl ⟨rfl, h⟩
  · replace h := h.2 c1
    refine g_al zp17 rfl rfl rfl (by decide) ?_
    refine g_get (v := zI (H 33 5)) zp17 rfl rfl rfl ⟨rfl, by decide, (by decide)⟩ rfl ?_
    refine g_ic zp17 rfl rfl ?_
    refine g_icmp zp17 rfl rfl zc1 (fun c2 => ?_) (fun c2 => ?_)
    · replace h := h.1 c2
      refine g_al zp17 rfl rfl rfl (by decide) ?_
      refine g_il zp17 rfl rfl rfl ?_
      refine g_putI zp17 rfl rfl rfl ⟨rfl, by decide, (by decide)⟩ rfl rfl ?_
      exact g_ret zp17 rfl rfl ⟨rfl, h⟩
    · replace h := h.2 c2
      refine g_al zp17 rfl rfl rfl (by decide) ?_
      refine g_al zp17 rfl rfl rfl (by decide) ?_
      refine g_get (v := zL (H 33 6)) zp17 rfl rfl rfl ⟨rfl, by decide, (by decide)⟩ rfl ?_
      refine g_lc zp17 rfl rfl ?_
      refine g_lar (r := w64 ((H 33 6) * 32)) zp17 rfl rfl rfl ?_
      refine g_al zp17 rfl rfl rfl (by decide) ?_
      refine g_get (v := zR 34) zp17 rfl rfl rfl ⟨rfl, by decide, (by decide)⟩ rfl ?_
      refine g_al zp17 rfl rfl rfl (by decide) ?_
      refine g_get (v := zI (H 33 3)) zp17 rfl rfl rfl ⟨rfl, by decide, (by decide)⟩ rfl ?_
      obtain ⟨c3, h⟩ := h
      refine g_ald (v := zI (H 34 (H 33 3))) zp17 rfl rfl rfl rfl c3 rfl ?_
      refine g_ic zp17 rfl rfl ?_
      refine g_ar (r := w32 ((H 34 (H 33 3)) - 97)) zp17 rfl rfl rfl ?_
      refine g_ic zp17 rfl rfl ?_
      refine g_ar (r := w32 ((w32 ((H 34 (H 33 3)) - 97)) + 1)) zp17 rfl rfl rfl ?_
      refine g_i2l zp17 rfl rfl ?_
      refine g_lar (r := w64 ((w64 ((H 33 6) * 32)) + (w32 ((w32 ((H 34 (H 33 3)) - 97)) + 1)))) zp17 rfl rfl rfl ?_
      refine g_putL zp17 rfl rfl rfl ⟨rfl, by decide, (by decide)⟩ rfl rfl ?_
      refine g_al zp17 rfl rfl rfl (by decide) ?_
      refine g_dup zp17 rfl rfl rfl ?_
      refine g_get (v := zI (H 33 3)) zp17 rfl rfl rfl ⟨rfl, by decide, (by decide)⟩ rfl ?_
      refine g_ic zp17 rfl rfl ?_
      refine g_ar (r := w32 ((H 33 3) + 1)) zp17 rfl rfl rfl ?_
      refine g_putI zp17 rfl rfl rfl ⟨rfl, by decide, (by decide)⟩ rfl rfl ?_
      refine g_goto zp17 rfl ?_
      exact g_weak (ls' := [zR 33, zI l1]) ⟨Or.inr rfl, Or.inr rfl, trivial⟩ h
theorem zp18 : zprog.getD 18 [] = zk18 := rfl
theorem x18_0 {w : zWt} {d : Nat} {H : zHt} {K : zHt → Prop} {l1 : Int}
    (h : (9 < (w32 (l1 - (H 33 4))) → zgo w d 18 20 [zR 33, zI l1] [] (zup H 33 5 4) (zQV K)) ∧ ((w32 (l1 - (H 33 4))) ≤ 9 → zgo w d 18 20 [zR 33, zI l1] [] (zup H 33 5 2) (zQV K))) :
    zclV w d 18 [zR 33, zI l1] H K := by
  show zgo w d 18 0 [zR 33, zI l1] [] H (zQV K)
  refine g_al zp18 rfl rfl rfl (by decide) ?_
  refine g_il zp18 rfl rfl rfl ?_
  refine g_al zp18 rfl rfl rfl (by decide) ?_
  refine g_get (v := zI (H 33 4)) zp18 rfl rfl rfl ⟨rfl, by decide, (by decide)⟩ rfl ?_
  refine g_ar (r := w32 (l1 - (H 33 4))) zp18 rfl rfl rfl ?_
  refine g_ic zp18 rfl rfl ?_
  refine g_icmp zp18 rfl rfl zc4 (fun c1 => ?_) (fun c1 => ?_)
  · replace h := h.1 c1
    refine g_ic zp18 rfl rfl ?_
    refine g_putI zp18 rfl rfl rfl ⟨rfl, by decide, (by decide)⟩ rfl rfl ?_
    exact g_weak (ls' := [zR 33, zI l1]) ⟨Or.inr rfl, Or.inr rfl, trivial⟩ h
  · replace h := h.2 c1
    refine g_ic zp18 rfl rfl ?_
    refine g_goto zp18 rfl ?_
    refine g_putI zp18 rfl rfl rfl ⟨rfl, by decide, (by decide)⟩ rfl rfl ?_
    exact g_weak (ls' := [zR 33, zI l1]) ⟨Or.inr rfl, Or.inr rfl, trivial⟩ h
theorem x18_20 {w : zWt} {d : Nat} {H : zHt} {K : zHt → Prop} {l1 : Int}
    (h : (l1 ≤ (H 33 3) → K (zup H 33 3 l1)) ∧ ((H 33 3) < l1 → (¬ (H 33 5) = 2 → K (zup H 33 3 l1)) ∧ ((H 33 5) = 2 → (0 ≤ (H 33 3) ∧ (H 33 3) < 400) ∧ zgo w d 18 20 [zR 33, zI l1] [] (zup (zup H 33 7 (w32 ((w32 ((H 33 7) * 10)) + (w32 ((H 34 (H 33 3)) - 48))))) 33 3 (w32 ((H 33 3) + 1))) (zQV K)))) :
    zgo w d 18 20 [zR 33, zI l1] [] H (zQV K) := by
  refine g_al zp18 rfl rfl rfl (by decide) ?_
  refine g_get (v := zI (H 33 3)) zp18 rfl rfl rfl ⟨rfl, by decide, (by decide)⟩ rfl ?_
  refine g_il zp18 rfl rfl rfl ?_
  refine g_icmp zp18 rfl rfl zc3 (fun c1 => ?_) (fun c1 => ?_)
  · replace h := h.1 c1
    refine g_al zp18 rfl rfl rfl (by decide) ?_
    refine g_il zp18 rfl rfl rfl ?_
    refine g_putI zp18 rfl rfl rfl ⟨rfl, by decide, (by decide)⟩ rfl rfl ?_
    exact g_ret zp18 rfl rfl ⟨rfl, h⟩
  · replace h := h.2 c1
    refine g_al zp18 rfl rfl rfl (by decide) ?_
    refine g_get (v := zI (H 33 5)) zp18 rfl rfl rfl ⟨rfl, by decide, (by decide)⟩ rfl ?_
    refine g_ic zp18 rfl rfl ?_
    refine g_icmp zp18 rfl rfl zc1 (fun c2 => ?_) (fun c2 => ?_)
    · replace h := h.1 c2
      refine g_al zp18 rfl rfl rfl (by decide) ?_
      refine g_il zp18 rfl rfl rfl ?_
      refine g_putI zp18 rfl rfl rfl ⟨rfl, by decide, (by decide)⟩ rfl rfl ?_
      exact g_ret zp18 rfl rfl ⟨rfl, h⟩
    · replace h := h.2 c2
      refine g_al zp18 rfl rfl rfl (by decide) ?_
      refine g_al zp18 rfl rfl rfl (by decide) ?_
      refine g_get (v := zI (H 33 7)) zp18 rfl rfl rfl ⟨rfl, by decide, (by decide)⟩ rfl ?_
      refine g_ic zp18 rfl rfl ?_
      refine g_ar (r := w32 ((H 33 7) * 10)) zp18 rfl rfl rfl ?_
      refine g_al zp18 rfl rfl rfl (by decide) ?_
      refine g_get (v := zR 34) zp18 rfl rfl rfl ⟨rfl, by decide, (by decide)⟩ rfl ?_
      refine g_al zp18 rfl rfl rfl (by decide) ?_
      refine g_get (v := zI (H 33 3)) zp18 rfl rfl rfl ⟨rfl, by decide, (by decide)⟩ rfl ?_
      obtain ⟨c3, h⟩ := h
      refine g_ald (v := zI (H 34 (H 33 3))) zp18 rfl rfl rfl rfl c3 rfl ?_
      refine g_ic zp18 rfl rfl ?_
      refine g_ar (r := w32 ((H 34 (H 33 3)) - 48)) zp18 rfl rfl rfl ?_
      refine g_ar (r := w32 ((w32 ((H 33 7) * 10)) + (w32 ((H 34 (H 33 3)) - 48)))) zp18 rfl rfl rfl ?_
      refine g_putI zp18 rfl rfl rfl ⟨rfl, by decide, (by decide)⟩ rfl rfl ?_
      refine g_al zp18 rfl rfl rfl (by decide) ?_
      refine g_dup zp18 rfl rfl rfl ?_
      refine g_get (v := zI (H 33 3)) zp18 rfl rfl rfl ⟨rfl, by decide, (by decide)⟩ rfl ?_
      refine g_ic zp18 rfl rfl ?_
      refine g_ar (r := w32 ((H 33 3) + 1)) zp18 rfl rfl rfl ?_
      refine g_putI zp18 rfl rfl rfl ⟨rfl, by decide, (by decide)⟩ rfl rfl ?_
      refine g_goto zp18 rfl ?_
      exact g_weak (ls' := [zR 33, zI l1]) ⟨Or.inr rfl, Or.inr rfl, trivial⟩ h
theorem zp19 : zprog.getD 19 [] = zk19 := rfl
theorem x19_0 {w : zWt} {d : Nat} {H : zHt} {K : Int → zHt → Prop} {l1 : Int} (hl1 : zisD l1)
    (h : ((H 33 5) = 1 → zclI w d 21 [zL (H 33 6)] H (fun x3 H2 => (x3 < 0 ∨ 4 ≤ x3 → zclI w d 20 [zR 33, zI 2] H2 (fun x5 H4 => (x5 = 0 ∨ x5 = 1) ∧ K x5 H4)) ∧ (x3 = 0 → zclI w d 30 [zR 33, zR l1] H2 (fun x8 H7 => (x8 = 0 ∨ x8 = 1) ∧ K x8 H7)) ∧ (x3 = 1 → zclI w d 33 [zR 33, zI 999999999] H2 (fun x11 H10 => (x11 = 0 → K 0 (zup H10 l1 2 (H10 33 7))) ∧ (¬ x11 = 0 → zclI w d 35 [zR 33] (zup H10 l1 2 (H10 33 7)) (fun x14 H13 => (x14 = 0 → K 0 H13) ∧ (¬ x14 = 0 → K 1 H13))))) ∧ (x3 = 2 → zclI w d 33 [zR 33, zI 100] H2 (fun x17 H16 => (x17 = 0 → K 0 (zup H16 l1 3 (H16 33 7))) ∧ (¬ x17 = 0 → zclI w d 35 [zR 33] (zup H16 l1 3 (H16 33 7)) (fun x20 H19 => (x20 = 0 → K 0 H19) ∧ (¬ x20 = 0 → K 1 H19))))) ∧ (x3 = 3 → zclI w d 36 [zR 33] H2 (fun x23 H22 => zclI w d 32 [zL (H22 33 6)] H22 (fun x25 H24 => (x23 = 0 → K 0 (zup H24 l1 4 x25)) ∧ (¬ x23 = 0 → zclI w d 35 [zR 33] (zup H24 l1 4 x25) (fun x28 H27 => (x28 = 0 → K 0 H27) ∧ (¬ x28 = 0 → K 1 H27)))))))) ∧ (¬ (H 33 5) = 1 → zclI w d 20 [zR 33, zI 2] H (fun x31 H30 => (x31 = 0 ∨ x31 = 1) ∧ K x31 H30))) :
    zclI w (d + 1) 19 [zR 33, zR l1] H K := by
  show zgo w (d + 1) 19 0 [zR 33, zR l1, zJ] [] H (zQI K)
  refine g_al zp19 rfl rfl rfl (by decide) ?_
  refine g_get (v := zI (H 33 5)) zp19 rfl rfl rfl ⟨rfl, by decide, (by decide)⟩ rfl ?_
  refine g_ic zp19 rfl rfl ?_
  refine g_icmp zp19 rfl rfl zc0 (fun c1 => ?_) (fun c1 => ?_)
  · replace h := h.1 c1
    refine g_al zp19 rfl rfl rfl (by decide) ?_
    refine g_get (v := zL (H 33 6)) zp19 rfl rfl rfl ⟨rfl, by decide, (by decide)⟩ rfl ?_
    refine g_callI (as := [zL (H 33 6)]) (rest := []) zp19 rfl rfl (Nat.succ_pos _) rfl rfl (Nat.le_of_ble_eq_true rfl) (Nat.le_of_ble_eq_true rfl) rfl rfl h (fun x3 H2 h => ?_)
    rcases Classical.em (x3 < 0 ∨ 4 ≤ x3) with c | c
    · refine g_tabO zp19 rfl c ?_
      replace h := h.1 c
      refine g_al zp19 rfl rfl rfl (by decide) ?_
      refine g_ic zp19 rfl rfl ?_
      refine g_callI (as := [zR 33, zI 2]) (rest := []) zp19 rfl rfl (Nat.succ_pos _) rfl rfl (Nat.le_of_ble_eq_true rfl) (Nat.le_of_ble_eq_true rfl) rfl rfl h (fun x5 H4 h => ?_)
      obtain ⟨c6, h⟩ := h
      exact g_ret zp19 rfl (zret_b c6) ⟨_, rfl, h⟩
    · replace h := h.2
      have hh : x3 = 0 ∨ x3 = 1 ∨ x3 = 2 ∨ x3 = 3 := by omega
      rcases hh with c | c | c | c
      · replace h := h.1 c
        refine g_tabE (z := 0) zp19 rfl c (by decide) rfl ?_
        refine g_al zp19 rfl rfl rfl (by decide) ?_
        refine g_al zp19 rfl rfl rfl (Int.le_trans (by decide) (zD_ge hl1)) ?_
        refine g_callI (as := [zR 33, zR l1]) (rest := []) zp19 rfl rfl (Nat.succ_pos _) rfl rfl (Nat.le_of_ble_eq_true rfl) (Nat.le_of_ble_eq_true rfl) rfl rfl h (fun x8 H7 h => ?_)
        obtain ⟨c9, h⟩ := h
        exact g_ret zp19 rfl (zret_b c9) ⟨_, rfl, h⟩
      · replace h := h.2.1 c
        refine g_tabE (z := 1) zp19 rfl c (by decide) rfl ?_
        refine g_al zp19 rfl rfl rfl (by decide) ?_
        refine g_ic zp19 rfl rfl ?_
        refine g_callI (as := [zR 33, zI 999999999]) (rest := []) zp19 rfl rfl (Nat.succ_pos _) rfl rfl (Nat.le_of_ble_eq_true rfl) (Nat.le_of_ble_eq_true rfl) rfl rfl h (fun x11 H10 h => ?_)
        refine g_is (ls' := [zR 33, zR l1, zI x11]) zp19 rfl rfl (Nat.le_of_ble_eq_true rfl) rfl ?_
        refine g_al zp19 rfl rfl rfl (Int.le_trans (by decide) (zD_ge hl1)) ?_
        refine g_al zp19 rfl rfl rfl (by decide) ?_
        refine g_get (v := zI (H10 33 7)) zp19 rfl rfl rfl ⟨rfl, by decide, (by decide)⟩ rfl ?_
        refine g_putI zp19 rfl rfl (zD_sh hl1) ⟨rfl, by decide, (zD_ge hl1)⟩ (zD_fx hl1 2 (by decide)) rfl ?_
        refine g_il zp19 rfl rfl rfl ?_
        refine g_if zp19 rfl rfl zc0 (fun c12 => ?_) (fun c12 => ?_)
        · replace h := h.1 c12
          refine g_ic zp19 rfl rfl ?_
          exact g_ret zp19 rfl (zret_b (by decide)) ⟨_, rfl, h⟩
        · replace h := h.2 c12
          refine g_al zp19 rfl rfl rfl (by decide) ?_
          refine g_callI (as := [zR 33]) (rest := []) zp19 rfl rfl (Nat.succ_pos _) rfl rfl (Nat.le_of_ble_eq_true rfl) (Nat.le_of_ble_eq_true rfl) rfl rfl h (fun x14 H13 h => ?_)
          refine g_if zp19 rfl rfl zc0 (fun c15 => ?_) (fun c15 => ?_)
          · replace h := h.1 c15
            refine g_ic zp19 rfl rfl ?_
            exact g_ret zp19 rfl (zret_b (by decide)) ⟨_, rfl, h⟩
          · replace h := h.2 c15
            refine g_ic zp19 rfl rfl ?_
            refine g_goto zp19 rfl ?_
            exact g_ret zp19 rfl (zret_b (by decide)) ⟨_, rfl, h⟩
      · replace h := h.2.2.1 c
        refine g_tabE (z := 2) zp19 rfl c (by decide) rfl ?_
        refine g_al zp19 rfl rfl rfl (by decide) ?_
        refine g_ic zp19 rfl rfl ?_
        refine g_callI (as := [zR 33, zI 100]) (rest := []) zp19 rfl rfl (Nat.succ_pos _) rfl rfl (Nat.le_of_ble_eq_true rfl) (Nat.le_of_ble_eq_true rfl) rfl rfl h (fun x17 H16 h => ?_)
        refine g_is (ls' := [zR 33, zR l1, zI x17]) zp19 rfl rfl (Nat.le_of_ble_eq_true rfl) rfl ?_
        refine g_al zp19 rfl rfl rfl (Int.le_trans (by decide) (zD_ge hl1)) ?_
        refine g_al zp19 rfl rfl rfl (by decide) ?_
        refine g_get (v := zI (H16 33 7)) zp19 rfl rfl rfl ⟨rfl, by decide, (by decide)⟩ rfl ?_
        refine g_putI zp19 rfl rfl (zD_sh hl1) ⟨rfl, by decide, (zD_ge hl1)⟩ (zD_fx hl1 3 (by decide)) rfl ?_
        refine g_il zp19 rfl rfl rfl ?_
        refine g_if zp19 rfl rfl zc0 (fun c18 => ?_) (fun c18 => ?_)
        · replace h := h.1 c18
          refine g_ic zp19 rfl rfl ?_
          exact g_ret zp19 rfl (zret_b (by decide)) ⟨_, rfl, h⟩
        · replace h := h.2 c18
          refine g_al zp19 rfl rfl rfl (by decide) ?_
          refine g_callI (as := [zR 33]) (rest := []) zp19 rfl rfl (Nat.succ_pos _) rfl rfl (Nat.le_of_ble_eq_true rfl) (Nat.le_of_ble_eq_true rfl) rfl rfl h (fun x20 H19 h => ?_)
          refine g_if zp19 rfl rfl zc0 (fun c21 => ?_) (fun c21 => ?_)
          · replace h := h.1 c21
            refine g_ic zp19 rfl rfl ?_
            exact g_ret zp19 rfl (zret_b (by decide)) ⟨_, rfl, h⟩
          · replace h := h.2 c21
            refine g_ic zp19 rfl rfl ?_
            refine g_goto zp19 rfl ?_
            exact g_ret zp19 rfl (zret_b (by decide)) ⟨_, rfl, h⟩
      · replace h := h.2.2.2 c
        refine g_tabE (z := 3) zp19 rfl c (by decide) rfl ?_
        refine g_al zp19 rfl rfl rfl (by decide) ?_
        refine g_callI (as := [zR 33]) (rest := []) zp19 rfl rfl (Nat.succ_pos _) rfl rfl (Nat.le_of_ble_eq_true rfl) (Nat.le_of_ble_eq_true rfl) rfl rfl h (fun x23 H22 h => ?_)
        refine g_is (ls' := [zR 33, zR l1, zI x23]) zp19 rfl rfl (Nat.le_of_ble_eq_true rfl) rfl ?_
        refine g_al zp19 rfl rfl rfl (Int.le_trans (by decide) (zD_ge hl1)) ?_
        refine g_al zp19 rfl rfl rfl (by decide) ?_
        refine g_get (v := zL (H22 33 6)) zp19 rfl rfl rfl ⟨rfl, by decide, (by decide)⟩ rfl ?_
        refine g_callI (as := [zL (H22 33 6)]) (rest := [zR l1]) zp19 rfl rfl (Nat.succ_pos _) rfl rfl (Nat.le_of_ble_eq_true rfl) (Nat.le_of_ble_eq_true rfl) rfl rfl h (fun x25 H24 h => ?_)
        refine g_putI zp19 rfl rfl (zD_sh hl1) ⟨rfl, by decide, (zD_ge hl1)⟩ (zD_fx hl1 4 (by decide)) rfl ?_
        refine g_il zp19 rfl rfl rfl ?_
        refine g_if zp19 rfl rfl zc0 (fun c26 => ?_) (fun c26 => ?_)
        · replace h := h.1 c26
          refine g_ic zp19 rfl rfl ?_
          exact g_ret zp19 rfl (zret_b (by decide)) ⟨_, rfl, h⟩
        · replace h := h.2 c26
          refine g_al zp19 rfl rfl rfl (by decide) ?_
          refine g_callI (as := [zR 33]) (rest := []) zp19 rfl rfl (Nat.succ_pos _) rfl rfl (Nat.le_of_ble_eq_true rfl) (Nat.le_of_ble_eq_true rfl) rfl rfl h (fun x28 H27 h => ?_)
          refine g_if zp19 rfl rfl zc0 (fun c29 => ?_) (fun c29 => ?_)
          · replace h := h.1 c29
            refine g_ic zp19 rfl rfl ?_
            exact g_ret zp19 rfl (zret_b (by decide)) ⟨_, rfl, h⟩
          · replace h := h.2 c29
            refine g_ic zp19 rfl rfl ?_
            refine g_goto zp19 rfl ?_
            exact g_ret zp19 rfl (zret_b (by decide)) ⟨_, rfl, h⟩
  · replace h := h.2 c1
    refine g_al zp19 rfl rfl rfl (by decide) ?_
    refine g_ic zp19 rfl rfl ?_
    refine g_callI (as := [zR 33, zI 2]) (rest := []) zp19 rfl rfl (Nat.succ_pos _) rfl rfl (Nat.le_of_ble_eq_true rfl) (Nat.le_of_ble_eq_true rfl) rfl rfl h (fun x31 H30 h => ?_)
    obtain ⟨c32, h⟩ := h
    exact g_ret zp19 rfl (zret_b c32) ⟨_, rfl, h⟩
theorem zp20 : zprog.getD 20 [] = zk20 := rfl
theorem x20_0 {w : zWt} {d : Nat} {H : zHt} {K : Int → zHt → Prop} {l1 : Int}
    (h : (¬ (H 33 5) = 4 → K 0 (zup (zup H 33 9 l1) 33 10 (H 33 4))) ∧ ((H 33 5) = 4 → K 0 (zup (zup H 33 9 1) 33 10 (H 33 4)))) :
    zclI w d 20 [zR 33, zI l1] H K := by
  show zgo w d 20 0 [zR 33, zI l1] [] H (zQI K)
  refine g_al zp20 rfl rfl rfl (by decide) ?_
  refine g_al zp20 rfl rfl rfl (by decide) ?_
  refine g_get (v := zI (H 33 5)) zp20 rfl rfl rfl ⟨rfl, by decide, (by decide)⟩ rfl ?_
  refine g_ic zp20 rfl rfl ?_
  refine g_icmp zp20 rfl rfl zc1 (fun c1 => ?_) (fun c1 => ?_)
  · replace h := h.1 c1
    refine g_il zp20 rfl rfl rfl ?_
    refine g_putI zp20 rfl rfl rfl ⟨rfl, by decide, (by decide)⟩ rfl rfl ?_
    refine g_al zp20 rfl rfl rfl (by decide) ?_
    refine g_al zp20 rfl rfl rfl (by decide) ?_
    refine g_get (v := zI (H 33 4)) zp20 rfl rfl rfl ⟨rfl, by decide, (by decide)⟩ rfl ?_
    refine g_putI zp20 rfl rfl rfl ⟨rfl, by decide, (by decide)⟩ rfl rfl ?_
    refine g_ic zp20 rfl rfl ?_
    exact g_ret zp20 rfl (zret_b (by decide)) ⟨_, rfl, h⟩
  · replace h := h.2 c1
    refine g_ic zp20 rfl rfl ?_
    refine g_goto zp20 rfl ?_
    refine g_putI zp20 rfl rfl rfl ⟨rfl, by decide, (by decide)⟩ rfl rfl ?_
    refine g_al zp20 rfl rfl rfl (by decide) ?_
    refine g_al zp20 rfl rfl rfl (by decide) ?_
    refine g_get (v := zI (H 33 4)) zp20 rfl rfl rfl ⟨rfl, by decide, (by decide)⟩ rfl ?_
    refine g_putI zp20 rfl rfl rfl ⟨rfl, by decide, (by decide)⟩ rfl rfl ?_
    refine g_ic zp20 rfl rfl ?_
    exact g_ret zp20 rfl (zret_b (by decide)) ⟨_, rfl, h⟩
theorem zp21 : zprog.getD 21 [] = zk21 := rfl
theorem x21_0 {w : zWt} {d : Nat} {H : zHt} {K : Int → zHt → Prop} {l0 : Int}
    (h : zclL w d 22 [zR 2] H (fun x2 H1 => (¬ l0 = x2 → zclL w d 22 [zR 3] H1 (fun x5 H4 => (¬ l0 = x5 → zclL w d 22 [zR 4] H4 (fun x8 H7 => (¬ l0 = x8 → zclL w d 22 [zR 5] H7 (fun x11 H10 => (¬ l0 = x11 → K (-1) H10) ∧ (l0 = x11 → K 3 H10))) ∧ (l0 = x8 → K 2 H7))) ∧ (l0 = x5 → K 1 H4))) ∧ (l0 = x2 → K 0 H1))) :
    zclI w (d + 1) 21 [zL l0] H K := by
  show zgo w (d + 1) 21 0 [zL l0, zJ] [] H (zQI K)
  refine g_ll zp21 rfl rfl rfl ?_
  refine g_ldcs (v := zR 2) zp21 rfl rfl (by decide) rfl ?_
  refine g_callL (as := [zR 2]) (rest := [zL l0]) zp21 rfl rfl (Nat.succ_pos _) rfl rfl (Nat.le_of_ble_eq_true rfl) (Nat.le_of_ble_eq_true rfl) rfl rfl h (fun x2 H1 h => ?_)
  refine g_lcmp zp21 rfl rfl rfl rfl zc1 (fun c3 => ?_) (fun c3 => ?_)
  · replace h := h.1 c3
    refine g_ll zp21 rfl rfl rfl ?_
    refine g_ldcs (v := zR 3) zp21 rfl rfl (by decide) rfl ?_
    refine g_callL (as := [zR 3]) (rest := [zL l0]) zp21 rfl rfl (Nat.succ_pos _) rfl rfl (Nat.le_of_ble_eq_true rfl) (Nat.le_of_ble_eq_true rfl) rfl rfl h (fun x5 H4 h => ?_)
    refine g_lcmp zp21 rfl rfl rfl rfl zc1 (fun c6 => ?_) (fun c6 => ?_)
    · replace h := h.1 c6
      refine g_ll zp21 rfl rfl rfl ?_
      refine g_ldcs (v := zR 4) zp21 rfl rfl (by decide) rfl ?_
      refine g_callL (as := [zR 4]) (rest := [zL l0]) zp21 rfl rfl (Nat.succ_pos _) rfl rfl (Nat.le_of_ble_eq_true rfl) (Nat.le_of_ble_eq_true rfl) rfl rfl h (fun x8 H7 h => ?_)
      refine g_lcmp zp21 rfl rfl rfl rfl zc1 (fun c9 => ?_) (fun c9 => ?_)
      · replace h := h.1 c9
        refine g_ll zp21 rfl rfl rfl ?_
        refine g_ldcs (v := zR 5) zp21 rfl rfl (by decide) rfl ?_
        refine g_callL (as := [zR 5]) (rest := [zL l0]) zp21 rfl rfl (Nat.succ_pos _) rfl rfl (Nat.le_of_ble_eq_true rfl) (Nat.le_of_ble_eq_true rfl) rfl rfl h (fun x11 H10 h => ?_)
        refine g_lcmp zp21 rfl rfl rfl rfl zc1 (fun c12 => ?_) (fun c12 => ?_)
        · replace h := h.1 c12
          refine g_ic zp21 rfl rfl ?_
          exact g_ret zp21 rfl rfl ⟨_, rfl, h⟩
        · replace h := h.2 c12
          refine g_ic zp21 rfl rfl ?_
          refine g_goto zp21 rfl ?_
          exact g_ret zp21 rfl rfl ⟨_, rfl, h⟩
      · replace h := h.2 c9
        refine g_ic zp21 rfl rfl ?_
        exact g_ret zp21 rfl rfl ⟨_, rfl, h⟩
    · replace h := h.2 c6
      refine g_ic zp21 rfl rfl ?_
      exact g_ret zp21 rfl rfl ⟨_, rfl, h⟩
  · replace h := h.2 c3
    refine g_ic zp21 rfl rfl ?_
    exact g_ret zp21 rfl rfl ⟨_, rfl, h⟩
theorem zp30 : zprog.getD 30 [] = zk30 := rfl
theorem x30_0 {w : zWt} {d : Nat} {H : zHt} {K : Int → zHt → Prop} {l1 : Int} (hl1 : zisD l1)
    (h : ((H l1 1) < 6 → zclI w d 31 [zR 33, zI (H l1 1)] H (fun x3 H2 => (¬ x3 = 0 → (0 ≤ (H l1 1) ∧ (H l1 1) < 6) ∧ zclI w d 33 [zR 33, zI 999999999] (zup H2 35 (H l1 1) (H2 33 6)) (fun x7 H6 => (¬ x7 = 0 → zclV w d 34 [zR l1, zI (H6 33 7)] H6 (fun H9 => zclI w d 35 [zR 33] H9 (fun x12 H11 => (x12 = 0 ∨ x12 = 1) ∧ K x12 H11))) ∧ (x7 = 0 → K 0 H6))) ∧ (x3 = 0 → K 0 H2))) ∧ (6 ≤ (H l1 1) → zclI w d 20 [zR 33, zI 5] H (fun x15 H14 => (x15 = 0 ∨ x15 = 1) ∧ K x15 H14))) :
    zclI w (d + 1) 30 [zR 33, zR l1] H K := by
  show zgo w (d + 1) 30 0 [zR 33, zR l1, zJ] [] H (zQI K)
  refine g_al zp30 rfl rfl rfl (Int.le_trans (by decide) (zD_ge hl1)) ?_
  refine g_get (v := zI (H l1 1)) zp30 rfl rfl (zD_sh hl1) ⟨rfl, by decide, (zD_ge hl1)⟩ (congrArg (ztag _) (zM_no (zD_ge hl1) (zD_fx hl1 1 (by decide)))) ?_
  refine g_is (ls' := [zR 33, zR l1, zI (H l1 1)]) zp30 rfl rfl (Nat.le_of_ble_eq_true rfl) rfl ?_
  refine g_il zp30 rfl rfl rfl ?_
  refine g_al zp30 rfl rfl rfl (by decide) ?_
  refine g_get (v := zR 35) zp30 rfl rfl rfl ⟨rfl, by decide, (by decide)⟩ rfl ?_
  refine g_len zp30 rfl rfl rfl (by decide) ?_
  refine g_icmp zp30 rfl rfl zc2 (fun c1 => ?_) (fun c1 => ?_)
  · replace h := h.1 c1
    refine g_al zp30 rfl rfl rfl (by decide) ?_
    refine g_il zp30 rfl rfl rfl ?_
    refine g_callI (as := [zR 33, zI (H l1 1)]) (rest := []) zp30 rfl rfl (Nat.succ_pos _) rfl rfl (Nat.le_of_ble_eq_true rfl) (Nat.le_of_ble_eq_true rfl) rfl rfl h (fun x3 H2 h => ?_)
    refine g_if zp30 rfl rfl zc1 (fun c4 => ?_) (fun c4 => ?_)
    · replace h := h.1 c4
      refine g_al zp30 rfl rfl rfl (by decide) ?_
      refine g_get (v := zR 35) zp30 rfl rfl rfl ⟨rfl, by decide, (by decide)⟩ rfl ?_
      refine g_il zp30 rfl rfl rfl ?_
      refine g_al zp30 rfl rfl rfl (by decide) ?_
      refine g_get (v := zL (H2 33 6)) zp30 rfl rfl rfl ⟨rfl, by decide, (by decide)⟩ rfl ?_
      obtain ⟨c5, h⟩ := h
      refine g_last zp30 rfl rfl rfl (by decide) rfl c5 ?_
      refine g_al zp30 rfl rfl rfl (by decide) ?_
      refine g_ic zp30 rfl rfl ?_
      refine g_callI (as := [zR 33, zI 999999999]) (rest := []) zp30 rfl rfl (Nat.succ_pos _) rfl rfl (Nat.le_of_ble_eq_true rfl) (Nat.le_of_ble_eq_true rfl) rfl rfl h (fun x7 H6 h => ?_)
      refine g_if zp30 rfl rfl zc1 (fun c8 => ?_) (fun c8 => ?_)
      · replace h := h.1 c8
        refine g_al zp30 rfl rfl rfl (Int.le_trans (by decide) (zD_ge hl1)) ?_
        refine g_al zp30 rfl rfl rfl (by decide) ?_
        refine g_get (v := zI (H6 33 7)) zp30 rfl rfl rfl ⟨rfl, by decide, (by decide)⟩ rfl ?_
        refine g_callV (as := [zR l1, zI (H6 33 7)]) (rest := []) zp30 rfl rfl (Nat.succ_pos _) rfl rfl (Nat.le_of_ble_eq_true rfl) (Nat.le_of_ble_eq_true rfl) (zrecv_of (zD_sh hl1) rfl) rfl h (fun H9 h => ?_)
        refine g_al zp30 rfl rfl rfl (by decide) ?_
        refine g_callI (as := [zR 33]) (rest := []) zp30 rfl rfl (Nat.succ_pos _) rfl rfl (Nat.le_of_ble_eq_true rfl) (Nat.le_of_ble_eq_true rfl) rfl rfl h (fun x12 H11 h => ?_)
        obtain ⟨c13, h⟩ := h
        exact g_ret zp30 rfl (zret_b c13) ⟨_, rfl, h⟩
      · replace h := h.2 c8
        refine g_ic zp30 rfl rfl ?_
        exact g_ret zp30 rfl (zret_b (by decide)) ⟨_, rfl, h⟩
    · replace h := h.2 c4
      refine g_ic zp30 rfl rfl ?_
      exact g_ret zp30 rfl (zret_b (by decide)) ⟨_, rfl, h⟩
  · replace h := h.2 c1
    refine g_al zp30 rfl rfl rfl (by decide) ?_
    refine g_ic zp30 rfl rfl ?_
    refine g_callI (as := [zR 33, zI 5]) (rest := []) zp30 rfl rfl (Nat.succ_pos _) rfl rfl (Nat.le_of_ble_eq_true rfl) (Nat.le_of_ble_eq_true rfl) rfl rfl h (fun x15 H14 h => ?_)
    obtain ⟨c16, h⟩ := h
    exact g_ret zp30 rfl (zret_b c16) ⟨_, rfl, h⟩
theorem zp31 : zprog.getD 31 [] = zk31 := rfl
theorem x31_0 {w : zWt} {d : Nat} {H : zHt} {K : Int → zHt → Prop} {l1 : Int}
    (h : zclV w d 15 [zR 33] H (fun H1 => (¬ (H1 33 5) = 1 → zclI w d 20 [zR 33, zI 2] H1 (fun x5 H4 => (x5 = 0 ∨ x5 = 1) ∧ K x5 H4)) ∧ ((H1 33 5) = 1 → zclI w d 21 [zL (H1 33 6)] H1 (fun x8 H7 => (¬ x8 = (-1) → zclI w d 20 [zR 33, zI 2] H7 (fun x11 H10 => (x11 = 0 ∨ x11 = 1) ∧ K x11 H10)) ∧ (x8 = (-1) → zclI w d 32 [zL (H7 33 6)] H7 (fun x14 H13 => (x14 = (-1) → zgo w (d + 1) 31 42 [zR 33, zI l1, zI 0] [] H13 (zQI K)) ∧ (¬ x14 = (-1) → zclI w d 20 [zR 33, zI 2] H13 (fun x17 H16 => (x17 = 0 ∨ x17 = 1) ∧ K x17 H16)))))))) :
    zclI w (d + 1) 31 [zR 33, zI l1] H K := by
  show zgo w (d + 1) 31 0 [zR 33, zI l1, zJ] [] H (zQI K)
  refine g_al zp31 rfl rfl rfl (by decide) ?_
  refine g_callV (as := [zR 33]) (rest := []) zp31 rfl rfl (Nat.succ_pos _) rfl rfl (Nat.le_of_ble_eq_true rfl) (Nat.le_of_ble_eq_true rfl) rfl rfl h (fun H1 h => ?_)
  refine g_al zp31 rfl rfl rfl (by decide) ?_
  refine g_get (v := zI (H1 33 5)) zp31 rfl rfl rfl ⟨rfl, by decide, (by decide)⟩ rfl ?_
  refine g_ic zp31 rfl rfl ?_
  refine g_icmp zp31 rfl rfl zc1 (fun c3 => ?_) (fun c3 => ?_)
  · replace h := h.1 c3
    refine g_al zp31 rfl rfl rfl (by decide) ?_
    refine g_ic zp31 rfl rfl ?_
    refine g_callI (as := [zR 33, zI 2]) (rest := []) zp31 rfl rfl (Nat.succ_pos _) rfl rfl (Nat.le_of_ble_eq_true rfl) (Nat.le_of_ble_eq_true rfl) rfl rfl h (fun x5 H4 h => ?_)
    obtain ⟨c6, h⟩ := h
    exact g_ret zp31 rfl (zret_b c6) ⟨_, rfl, h⟩
  · replace h := h.2 c3
    refine g_al zp31 rfl rfl rfl (by decide) ?_
    refine g_get (v := zL (H1 33 6)) zp31 rfl rfl rfl ⟨rfl, by decide, (by decide)⟩ rfl ?_
    refine g_callI (as := [zL (H1 33 6)]) (rest := []) zp31 rfl rfl (Nat.succ_pos _) rfl rfl (Nat.le_of_ble_eq_true rfl) (Nat.le_of_ble_eq_true rfl) rfl rfl h (fun x8 H7 h => ?_)
    refine g_ic zp31 rfl rfl ?_
    refine g_icmp zp31 rfl rfl zc1 (fun c9 => ?_) (fun c9 => ?_)
    · replace h := h.1 c9
      refine g_al zp31 rfl rfl rfl (by decide) ?_
      refine g_ic zp31 rfl rfl ?_
      refine g_callI (as := [zR 33, zI 2]) (rest := []) zp31 rfl rfl (Nat.succ_pos _) rfl rfl (Nat.le_of_ble_eq_true rfl) (Nat.le_of_ble_eq_true rfl) rfl rfl h (fun x11 H10 h => ?_)
      obtain ⟨c12, h⟩ := h
      exact g_ret zp31 rfl (zret_b c12) ⟨_, rfl, h⟩
    · replace h := h.2 c9
      refine g_al zp31 rfl rfl rfl (by decide) ?_
      refine g_get (v := zL (H7 33 6)) zp31 rfl rfl rfl ⟨rfl, by decide, (by decide)⟩ rfl ?_
      refine g_callI (as := [zL (H7 33 6)]) (rest := []) zp31 rfl rfl (Nat.succ_pos _) rfl rfl (Nat.le_of_ble_eq_true rfl) (Nat.le_of_ble_eq_true rfl) rfl rfl h (fun x14 H13 h => ?_)
      refine g_ic zp31 rfl rfl ?_
      refine g_icmp zp31 rfl rfl zc0 (fun c15 => ?_) (fun c15 => ?_)
      · replace h := h.1 c15
        refine g_ic zp31 rfl rfl ?_
        refine g_is (ls' := [zR 33, zI l1, zI 0]) zp31 rfl rfl (Nat.le_of_ble_eq_true rfl) rfl ?_
        exact g_weak (ls' := [zR 33, zI l1, zI 0]) ⟨Or.inr rfl, Or.inr rfl, Or.inr rfl, trivial⟩ h
      · replace h := h.2 c15
        refine g_al zp31 rfl rfl rfl (by decide) ?_
        refine g_ic zp31 rfl rfl ?_
        refine g_callI (as := [zR 33, zI 2]) (rest := []) zp31 rfl rfl (Nat.succ_pos _) rfl rfl (Nat.le_of_ble_eq_true rfl) (Nat.le_of_ble_eq_true rfl) rfl rfl h (fun x17 H16 h => ?_)
        obtain ⟨c18, h⟩ := h
        exact g_ret zp31 rfl (zret_b c18) ⟨_, rfl, h⟩
theorem x31_42 {w : zWt} {d : Nat} {H : zHt} {K : Int → zHt → Prop} {l1 : Int} {l2 : Int}
    (h : (l1 ≤ l2 → K 1 H) ∧ (l2 < l1 → (6 ≤ l2 → K 1 H) ∧ (l2 < 6 → (0 ≤ l2 ∧ l2 < 6) ∧ (¬ (H 35 l2) = (H 33 6) → zgo w (d + 1) 31 42 [zR 33, zI l1, zI (w32 (l2 + 1))] [] H (zQI K)) ∧ ((H 35 l2) = (H 33 6) → zclI w d 20 [zR 33, zI 4] H (fun x6 H5 => (x6 = 0 ∨ x6 = 1) ∧ K x6 H5))))) :
    zgo w (d + 1) 31 42 [zR 33, zI l1, zI l2] [] H (zQI K) := by
  refine g_il zp31 rfl rfl rfl ?_
  refine g_il zp31 rfl rfl rfl ?_
  refine g_icmp zp31 rfl rfl zc3 (fun c1 => ?_) (fun c1 => ?_)
  · replace h := h.1 c1
    refine g_ic zp31 rfl rfl ?_
    exact g_ret zp31 rfl (zret_b (by decide)) ⟨_, rfl, h⟩
  · replace h := h.2 c1
    refine g_il zp31 rfl rfl rfl ?_
    refine g_al zp31 rfl rfl rfl (by decide) ?_
    refine g_get (v := zR 35) zp31 rfl rfl rfl ⟨rfl, by decide, (by decide)⟩ rfl ?_
    refine g_len zp31 rfl rfl rfl (by decide) ?_
    refine g_icmp zp31 rfl rfl zc3 (fun c2 => ?_) (fun c2 => ?_)
    · replace h := h.1 c2
      refine g_ic zp31 rfl rfl ?_
      exact g_ret zp31 rfl (zret_b (by decide)) ⟨_, rfl, h⟩
    · replace h := h.2 c2
      refine g_al zp31 rfl rfl rfl (by decide) ?_
      refine g_get (v := zR 35) zp31 rfl rfl rfl ⟨rfl, by decide, (by decide)⟩ rfl ?_
      refine g_il zp31 rfl rfl rfl ?_
      obtain ⟨c3, h⟩ := h
      refine g_ald (v := zL (H 35 l2)) zp31 rfl rfl rfl rfl c3 rfl ?_
      refine g_al zp31 rfl rfl rfl (by decide) ?_
      refine g_get (v := zL (H 33 6)) zp31 rfl rfl rfl ⟨rfl, by decide, (by decide)⟩ rfl ?_
      refine g_lcmp zp31 rfl rfl rfl rfl zc1 (fun c4 => ?_) (fun c4 => ?_)
      · replace h := h.1 c4
        refine g_inc (ls' := [zR 33, zI l1, zI (w32 (l2 + 1))]) zp31 rfl rfl rfl rfl ?_
        refine g_goto zp31 rfl ?_
        exact g_weak (ls' := [zR 33, zI l1, zI (w32 (l2 + 1))]) ⟨Or.inr rfl, Or.inr rfl, Or.inr rfl, trivial⟩ h
      · replace h := h.2 c4
        refine g_al zp31 rfl rfl rfl (by decide) ?_
        refine g_ic zp31 rfl rfl ?_
        refine g_callI (as := [zR 33, zI 4]) (rest := []) zp31 rfl rfl (Nat.succ_pos _) rfl rfl (Nat.le_of_ble_eq_true rfl) (Nat.le_of_ble_eq_true rfl) rfl rfl h (fun x6 H5 h => ?_)
        obtain ⟨c7, h⟩ := h
        exact g_ret zp31 rfl (zret_b c7) ⟨_, rfl, h⟩
theorem zp32 : zprog.getD 32 [] = zk32 := rfl
theorem x32_0 {w : zWt} {d : Nat} {H : zHt} {K : Int → zHt → Prop} {l0 : Int}
    (h : zclL w d 22 [zR 6] H (fun x2 H1 => (¬ l0 = x2 → zclL w d 22 [zR 7] H1 (fun x5 H4 => (¬ l0 = x5 → zclL w d 22 [zR 8] H4 (fun x8 H7 => (¬ l0 = x8 → zclL w d 22 [zR 9] H7 (fun x11 H10 => (¬ l0 = x11 → K (-1) H10) ∧ (l0 = x11 → K 3 H10))) ∧ (l0 = x8 → K 2 H7))) ∧ (l0 = x5 → K 1 H4))) ∧ (l0 = x2 → K 0 H1))) :
    zclI w (d + 1) 32 [zL l0] H K := by
  show zgo w (d + 1) 32 0 [zL l0, zJ] [] H (zQI K)
  refine g_ll zp32 rfl rfl rfl ?_
  refine g_ldcs (v := zR 6) zp32 rfl rfl (by decide) rfl ?_
  refine g_callL (as := [zR 6]) (rest := [zL l0]) zp32 rfl rfl (Nat.succ_pos _) rfl rfl (Nat.le_of_ble_eq_true rfl) (Nat.le_of_ble_eq_true rfl) rfl rfl h (fun x2 H1 h => ?_)
  refine g_lcmp zp32 rfl rfl rfl rfl zc1 (fun c3 => ?_) (fun c3 => ?_)
  · replace h := h.1 c3
    refine g_ll zp32 rfl rfl rfl ?_
    refine g_ldcs (v := zR 7) zp32 rfl rfl (by decide) rfl ?_
    refine g_callL (as := [zR 7]) (rest := [zL l0]) zp32 rfl rfl (Nat.succ_pos _) rfl rfl (Nat.le_of_ble_eq_true rfl) (Nat.le_of_ble_eq_true rfl) rfl rfl h (fun x5 H4 h => ?_)
    refine g_lcmp zp32 rfl rfl rfl rfl zc1 (fun c6 => ?_) (fun c6 => ?_)
    · replace h := h.1 c6
      refine g_ll zp32 rfl rfl rfl ?_
      refine g_ldcs (v := zR 8) zp32 rfl rfl (by decide) rfl ?_
      refine g_callL (as := [zR 8]) (rest := [zL l0]) zp32 rfl rfl (Nat.succ_pos _) rfl rfl (Nat.le_of_ble_eq_true rfl) (Nat.le_of_ble_eq_true rfl) rfl rfl h (fun x8 H7 h => ?_)
      refine g_lcmp zp32 rfl rfl rfl rfl zc1 (fun c9 => ?_) (fun c9 => ?_)
      · replace h := h.1 c9
        refine g_ll zp32 rfl rfl rfl ?_
        refine g_ldcs (v := zR 9) zp32 rfl rfl (by decide) rfl ?_
        refine g_callL (as := [zR 9]) (rest := [zL l0]) zp32 rfl rfl (Nat.succ_pos _) rfl rfl (Nat.le_of_ble_eq_true rfl) (Nat.le_of_ble_eq_true rfl) rfl rfl h (fun x11 H10 h => ?_)
        refine g_lcmp zp32 rfl rfl rfl rfl zc1 (fun c12 => ?_) (fun c12 => ?_)
        · replace h := h.1 c12
          refine g_ic zp32 rfl rfl ?_
          exact g_ret zp32 rfl rfl ⟨_, rfl, h⟩
        · replace h := h.2 c12
          refine g_ic zp32 rfl rfl ?_
          refine g_goto zp32 rfl ?_
          exact g_ret zp32 rfl rfl ⟨_, rfl, h⟩
      · replace h := h.2 c9
        refine g_ic zp32 rfl rfl ?_
        exact g_ret zp32 rfl rfl ⟨_, rfl, h⟩
    · replace h := h.2 c6
      refine g_ic zp32 rfl rfl ?_
      exact g_ret zp32 rfl rfl ⟨_, rfl, h⟩
  · replace h := h.2 c3
    refine g_ic zp32 rfl rfl ?_
    exact g_ret zp32 rfl rfl ⟨_, rfl, h⟩
theorem zp33 : zprog.getD 33 [] = zk33 := rfl
theorem x33_0 {w : zWt} {d : Nat} {H : zHt} {K : Int → zHt → Prop} {l1 : Int}
    (h : zclV w d 15 [zR 33] H (fun H1 => ((H1 33 5) = 2 → ((H1 33 7) < 1 → zclI w d 20 [zR 33, zI 3] H1 (fun x6 H5 => (x6 = 0 → K 0 H5) ∧ (¬ x6 = 0 → K 1 H5))) ∧ (1 ≤ (H1 33 7) → ((H1 33 7) ≤ l1 → K 1 H1) ∧ (l1 < (H1 33 7) → zclI w d 20 [zR 33, zI 3] H1 (fun x10 H9 => (x10 = 0 → K 0 H9) ∧ (¬ x10 = 0 → K 1 H9))))) ∧ (¬ (H1 33 5) = 2 → zclI w d 20 [zR 33, zI 2] H1 (fun x13 H12 => (x13 = 0 ∨ x13 = 1) ∧ K x13 H12)))) :
    zclI w (d + 1) 33 [zR 33, zI l1] H K := by
  show zgo w (d + 1) 33 0 [zR 33, zI l1] [] H (zQI K)
  refine g_al zp33 rfl rfl rfl (by decide) ?_
  refine g_callV (as := [zR 33]) (rest := []) zp33 rfl rfl (Nat.succ_pos _) rfl rfl (Nat.le_of_ble_eq_true rfl) (Nat.le_of_ble_eq_true rfl) rfl rfl h (fun H1 h => ?_)
  refine g_al zp33 rfl rfl rfl (by decide) ?_
  refine g_get (v := zI (H1 33 5)) zp33 rfl rfl rfl ⟨rfl, by decide, (by decide)⟩ rfl ?_
  refine g_ic zp33 rfl rfl ?_
  refine g_icmp zp33 rfl rfl zc0 (fun c3 => ?_) (fun c3 => ?_)
  · replace h := h.1 c3
    refine g_al zp33 rfl rfl rfl (by decide) ?_
    refine g_get (v := zI (H1 33 7)) zp33 rfl rfl rfl ⟨rfl, by decide, (by decide)⟩ rfl ?_
    refine g_ic zp33 rfl rfl ?_
    refine g_icmp zp33 rfl rfl zc2 (fun c4 => ?_) (fun c4 => ?_)
    · replace h := h.1 c4
      refine g_al zp33 rfl rfl rfl (by decide) ?_
      refine g_ic zp33 rfl rfl ?_
      refine g_callI (as := [zR 33, zI 3]) (rest := []) zp33 rfl rfl (Nat.succ_pos _) rfl rfl (Nat.le_of_ble_eq_true rfl) (Nat.le_of_ble_eq_true rfl) rfl rfl h (fun x6 H5 h => ?_)
      refine g_if zp33 rfl rfl zc0 (fun c7 => ?_) (fun c7 => ?_)
      · replace h := h.1 c7
        refine g_ic zp33 rfl rfl ?_
        exact g_ret zp33 rfl (zret_b (by decide)) ⟨_, rfl, h⟩
      · replace h := h.2 c7
        refine g_ic zp33 rfl rfl ?_
        refine g_goto zp33 rfl ?_
        exact g_ret zp33 rfl (zret_b (by decide)) ⟨_, rfl, h⟩
    · replace h := h.2 c4
      refine g_al zp33 rfl rfl rfl (by decide) ?_
      refine g_get (v := zI (H1 33 7)) zp33 rfl rfl rfl ⟨rfl, by decide, (by decide)⟩ rfl ?_
      refine g_il zp33 rfl rfl rfl ?_
      refine g_icmp zp33 rfl rfl zc5 (fun c8 => ?_) (fun c8 => ?_)
      · replace h := h.1 c8
        refine g_ic zp33 rfl rfl ?_
        refine g_goto zp33 rfl ?_
        exact g_ret zp33 rfl (zret_b (by decide)) ⟨_, rfl, h⟩
      · replace h := h.2 c8
        refine g_al zp33 rfl rfl rfl (by decide) ?_
        refine g_ic zp33 rfl rfl ?_
        refine g_callI (as := [zR 33, zI 3]) (rest := []) zp33 rfl rfl (Nat.succ_pos _) rfl rfl (Nat.le_of_ble_eq_true rfl) (Nat.le_of_ble_eq_true rfl) rfl rfl h (fun x10 H9 h => ?_)
        refine g_if zp33 rfl rfl zc0 (fun c11 => ?_) (fun c11 => ?_)
        · replace h := h.1 c11
          refine g_ic zp33 rfl rfl ?_
          exact g_ret zp33 rfl (zret_b (by decide)) ⟨_, rfl, h⟩
        · replace h := h.2 c11
          refine g_ic zp33 rfl rfl ?_
          refine g_goto zp33 rfl ?_
          exact g_ret zp33 rfl (zret_b (by decide)) ⟨_, rfl, h⟩
  · replace h := h.2 c3
    refine g_al zp33 rfl rfl rfl (by decide) ?_
    refine g_ic zp33 rfl rfl ?_
    refine g_callI (as := [zR 33, zI 2]) (rest := []) zp33 rfl rfl (Nat.succ_pos _) rfl rfl (Nat.le_of_ble_eq_true rfl) (Nat.le_of_ble_eq_true rfl) rfl rfl h (fun x13 H12 h => ?_)
    obtain ⟨c14, h⟩ := h
    exact g_ret zp33 rfl (zret_b c14) ⟨_, rfl, h⟩
theorem zp34 : zprog.getD 34 [] = zk34 := rfl
theorem x34_0 {w : zWt} {d : Nat} {H : zHt} {K : zHt → Prop} {l0 : Int} (hl0 : zisD l0) {l1 : Int}
    (h : (6 ≤ (H l0 1) → K H) ∧ ((H l0 1) < 6 → (0 ≤ (H l0 1) ∧ (H l0 1) < 6) ∧ K (zup (zup H (l0 + 1) (H l0 1) l1) l0 1 (w32 (((zup H (l0 + 1) (H l0 1) l1) l0 1) + 1))))) :
    zclV w d 34 [zR l0, zI l1] H K := by
  show zgo w d 34 0 [zR l0, zI l1] [] H (zQV K)
  refine g_al zp34 rfl rfl rfl (Int.le_trans (by decide) (zD_ge hl0)) ?_
  refine g_get (v := zI (H l0 1)) zp34 rfl rfl (zD_sh hl0) ⟨rfl, by decide, (zD_ge hl0)⟩ (congrArg (ztag _) (zM_no (zD_ge hl0) (zD_fx hl0 1 (by decide)))) ?_
  refine g_al zp34 rfl rfl rfl (Int.le_trans (by decide) (zD_ge hl0)) ?_
  refine g_get (v := zR (l0 + 1)) zp34 rfl rfl (zD_sh hl0) ⟨rfl, by decide, (zD_ge hl0)⟩ (congrArg (ztag _) (zD_f0 hl0)) ?_
  refine g_len zp34 rfl rfl (zD_sh1 hl0) (by decide) ?_
  refine g_icmp zp34 rfl rfl zc3 (fun c1 => ?_) (fun c1 => ?_)
  · replace h := h.1 c1
    exact g_ret zp34 rfl rfl ⟨rfl, h⟩
  · replace h := h.2 c1
    refine g_al zp34 rfl rfl rfl (Int.le_trans (by decide) (zD_ge hl0)) ?_
    refine g_get (v := zR (l0 + 1)) zp34 rfl rfl (zD_sh hl0) ⟨rfl, by decide, (zD_ge hl0)⟩ (congrArg (ztag _) (zD_f0 hl0)) ?_
    refine g_al zp34 rfl rfl rfl (Int.le_trans (by decide) (zD_ge hl0)) ?_
    refine g_get (v := zI (H l0 1)) zp34 rfl rfl (zD_sh hl0) ⟨rfl, by decide, (zD_ge hl0)⟩ (congrArg (ztag _) (zM_no (zD_ge hl0) (zD_fx hl0 1 (by decide)))) ?_
    refine g_il zp34 rfl rfl rfl ?_
    obtain ⟨c2, h⟩ := h
    refine g_iast zp34 rfl rfl (zD_sh1 hl0) (zD_ge1 hl0) (zD_fx1 hl0 _) c2 ?_
    refine g_al zp34 rfl rfl rfl (Int.le_trans (by decide) (zD_ge hl0)) ?_
    refine g_dup zp34 rfl rfl rfl ?_
    refine g_get (v := zI ((zup H (l0 + 1) (H l0 1) l1) l0 1)) zp34 rfl rfl (zD_sh hl0) ⟨rfl, by decide, (zD_ge hl0)⟩ (congrArg (ztag _) (zM_no (zD_ge hl0) (zD_fx hl0 1 (by decide)))) ?_
    refine g_ic zp34 rfl rfl ?_
    refine g_ar (r := w32 (((zup H (l0 + 1) (H l0 1) l1) l0 1) + 1)) zp34 rfl rfl rfl ?_
    refine g_putI zp34 rfl rfl (zD_sh hl0) ⟨rfl, by decide, (zD_ge hl0)⟩ (zD_fx hl0 1 (by decide)) rfl ?_
    exact g_ret zp34 rfl rfl ⟨rfl, h⟩
theorem zp35 : zprog.getD 35 [] = zk35 := rfl
theorem x35_0 {w : zWt} {d : Nat} {H : zHt} {K : Int → zHt → Prop} 
    (h : zclV w d 15 [zR 33] H (fun H1 => ((H1 33 5) = 3 → K 1 H1) ∧ (¬ (H1 33 5) = 3 → zclI w d 20 [zR 33, zI 2] H1 (fun x5 H4 => (x5 = 0 → K 0 H4) ∧ (¬ x5 = 0 → K 1 H4))))) :
    zclI w (d + 1) 35 [zR 33] H K := by
  show zgo w (d + 1) 35 0 [zR 33] [] H (zQI K)
  refine g_al zp35 rfl rfl rfl (by decide) ?_
  refine g_callV (as := [zR 33]) (rest := []) zp35 rfl rfl (Nat.succ_pos _) rfl rfl (Nat.le_of_ble_eq_true rfl) (Nat.le_of_ble_eq_true rfl) rfl rfl h (fun H1 h => ?_)
  refine g_al zp35 rfl rfl rfl (by decide) ?_
  refine g_get (v := zI (H1 33 5)) zp35 rfl rfl rfl ⟨rfl, by decide, (by decide)⟩ rfl ?_
  refine g_ic zp35 rfl rfl ?_
  refine g_icmp zp35 rfl rfl zc0 (fun c3 => ?_) (fun c3 => ?_)
  · replace h := h.1 c3
    refine g_ic zp35 rfl rfl ?_
    refine g_goto zp35 rfl ?_
    exact g_ret zp35 rfl (zret_b (by decide)) ⟨_, rfl, h⟩
  · replace h := h.2 c3
    refine g_al zp35 rfl rfl rfl (by decide) ?_
    refine g_ic zp35 rfl rfl ?_
    refine g_callI (as := [zR 33, zI 2]) (rest := []) zp35 rfl rfl (Nat.succ_pos _) rfl rfl (Nat.le_of_ble_eq_true rfl) (Nat.le_of_ble_eq_true rfl) rfl rfl h (fun x5 H4 h => ?_)
    refine g_if zp35 rfl rfl zc0 (fun c6 => ?_) (fun c6 => ?_)
    · replace h := h.1 c6
      refine g_ic zp35 rfl rfl ?_
      exact g_ret zp35 rfl (zret_b (by decide)) ⟨_, rfl, h⟩
    · replace h := h.2 c6
      refine g_ic zp35 rfl rfl ?_
      refine g_goto zp35 rfl ?_
      exact g_ret zp35 rfl (zret_b (by decide)) ⟨_, rfl, h⟩
theorem zp36 : zprog.getD 36 [] = zk36 := rfl
theorem x36_0 {w : zWt} {d : Nat} {H : zHt} {K : Int → zHt → Prop} 
    (h : zclV w d 15 [zR 33] H (fun H1 => (¬ (H1 33 5) = 1 → zclI w d 20 [zR 33, zI 2] H1 (fun x5 H4 => (x5 = 0 → K 0 H4) ∧ (¬ x5 = 0 → K 1 H4))) ∧ ((H1 33 5) = 1 → zclI w d 32 [zL (H1 33 6)] H1 (fun x8 H7 => (¬ x8 = (-1) → K 1 H7) ∧ (x8 = (-1) → zclI w d 20 [zR 33, zI 2] H7 (fun x11 H10 => (x11 = 0 → K 0 H10) ∧ (¬ x11 = 0 → K 1 H10))))))) :
    zclI w (d + 1) 36 [zR 33] H K := by
  show zgo w (d + 1) 36 0 [zR 33] [] H (zQI K)
  refine g_al zp36 rfl rfl rfl (by decide) ?_
  refine g_callV (as := [zR 33]) (rest := []) zp36 rfl rfl (Nat.succ_pos _) rfl rfl (Nat.le_of_ble_eq_true rfl) (Nat.le_of_ble_eq_true rfl) rfl rfl h (fun H1 h => ?_)
  refine g_al zp36 rfl rfl rfl (by decide) ?_
  refine g_get (v := zI (H1 33 5)) zp36 rfl rfl rfl ⟨rfl, by decide, (by decide)⟩ rfl ?_
  refine g_ic zp36 rfl rfl ?_
  refine g_icmp zp36 rfl rfl zc1 (fun c3 => ?_) (fun c3 => ?_)
  · replace h := h.1 c3
    refine g_al zp36 rfl rfl rfl (by decide) ?_
    refine g_ic zp36 rfl rfl ?_
    refine g_callI (as := [zR 33, zI 2]) (rest := []) zp36 rfl rfl (Nat.succ_pos _) rfl rfl (Nat.le_of_ble_eq_true rfl) (Nat.le_of_ble_eq_true rfl) rfl rfl h (fun x5 H4 h => ?_)
    refine g_if zp36 rfl rfl zc0 (fun c6 => ?_) (fun c6 => ?_)
    · replace h := h.1 c6
      refine g_ic zp36 rfl rfl ?_
      exact g_ret zp36 rfl (zret_b (by decide)) ⟨_, rfl, h⟩
    · replace h := h.2 c6
      refine g_ic zp36 rfl rfl ?_
      refine g_goto zp36 rfl ?_
      exact g_ret zp36 rfl (zret_b (by decide)) ⟨_, rfl, h⟩
  · replace h := h.2 c3
    refine g_al zp36 rfl rfl rfl (by decide) ?_
    refine g_get (v := zL (H1 33 6)) zp36 rfl rfl rfl ⟨rfl, by decide, (by decide)⟩ rfl ?_
    refine g_callI (as := [zL (H1 33 6)]) (rest := []) zp36 rfl rfl (Nat.succ_pos _) rfl rfl (Nat.le_of_ble_eq_true rfl) (Nat.le_of_ble_eq_true rfl) rfl rfl h (fun x8 H7 h => ?_)
    refine g_ic zp36 rfl rfl ?_
    refine g_icmp zp36 rfl rfl zc1 (fun c9 => ?_) (fun c9 => ?_)
    · replace h := h.1 c9
      refine g_ic zp36 rfl rfl ?_
      refine g_goto zp36 rfl ?_
      exact g_ret zp36 rfl (zret_b (by decide)) ⟨_, rfl, h⟩
    · replace h := h.2 c9
      refine g_al zp36 rfl rfl rfl (by decide) ?_
      refine g_ic zp36 rfl rfl ?_
      refine g_callI (as := [zR 33, zI 2]) (rest := []) zp36 rfl rfl (Nat.succ_pos _) rfl rfl (Nat.le_of_ble_eq_true rfl) (Nat.le_of_ble_eq_true rfl) rfl rfl h (fun x11 H10 h => ?_)
      refine g_if zp36 rfl rfl zc0 (fun c12 => ?_) (fun c12 => ?_)
      · replace h := h.1 c12
        refine g_ic zp36 rfl rfl ?_
        exact g_ret zp36 rfl (zret_b (by decide)) ⟨_, rfl, h⟩
      · replace h := h.2 c12
        refine g_ic zp36 rfl rfl ?_
        refine g_goto zp36 rfl ?_
        exact g_ret zp36 rfl (zret_b (by decide)) ⟨_, rfl, h⟩
theorem zp37 : zprog.getD 37 [] = zk37 := rfl
theorem x37_0 {w : zWt} {d : Nat} {H : zHt} {K : zHt → Prop} {l0 : Int} (hl0 : zisD l0) {l1 : Int} (hl1 : zisD l1)
    (h : zgo w d 37 2 [zR l0, zR l1, zI 0] [] H (zQV K)) :
    zclV w d 37 [zR l0, zR l1] H K := by
  show zgo w d 37 0 [zR l0, zR l1, zJ] [] H (zQV K)
  refine g_ic zp37 rfl rfl ?_
  refine g_is (ls' := [zR l0, zR l1, zI 0]) zp37 rfl rfl (Nat.le_of_ble_eq_true rfl) rfl ?_
  exact g_weak (ls' := [zR l0, zR l1, zI 0]) ⟨Or.inr rfl, Or.inr rfl, Or.inr rfl, trivial⟩ h
theorem x37_2 {w : zWt} {d : Nat} {H : zHt} {K : zHt → Prop} {l0 : Int} (hl0 : zisD l0) {l1 : Int} (hl1 : zisD l1) {l2 : Int}
    (h : (6 ≤ l2 → ∀ v2 : Int, v2 = (zup (zup (zup H l0 1 (H l1 1)) l0 2 ((zup H l0 1 (H l1 1)) l1 2)) l0 3 ((zup (zup H l0 1 (H l1 1)) l0 2 ((zup H l0 1 (H l1 1)) l1 2)) l1 3)) l1 4 → K (zup (zup (zup (zup H l0 1 (H l1 1)) l0 2 ((zup H l0 1 (H l1 1)) l1 2)) l0 3 ((zup (zup H l0 1 (H l1 1)) l0 2 ((zup H l0 1 (H l1 1)) l1 2)) l1 3)) l0 4 v2)) ∧ (l2 < 6 → (0 ≤ l2 ∧ l2 < 6) ∧ zgo w d 37 2 [zR l0, zR l1, zI (w32 (l2 + 1))] [] (zup H (l0 + 1) l2 (H (l1 + 1) l2)) (zQV K))) :
    zgo w d 37 2 [zR l0, zR l1, zI l2] [] H (zQV K) := by
  refine g_il zp37 rfl rfl rfl ?_
  refine g_al zp37 rfl rfl rfl (Int.le_trans (by decide) (zD_ge hl0)) ?_
  refine g_get (v := zR (l0 + 1)) zp37 rfl rfl (zD_sh hl0) ⟨rfl, by decide, (zD_ge hl0)⟩ (congrArg (ztag _) (zD_f0 hl0)) ?_
  refine g_len zp37 rfl rfl (zD_sh1 hl0) (by decide) ?_
  refine g_icmp zp37 rfl rfl zc3 (fun c1 => ?_) (fun c1 => ?_)
  · replace h := h.1 c1
    refine g_al zp37 rfl rfl rfl (Int.le_trans (by decide) (zD_ge hl0)) ?_
    refine g_al zp37 rfl rfl rfl (Int.le_trans (by decide) (zD_ge hl1)) ?_
    refine g_get (v := zI (H l1 1)) zp37 rfl rfl (zD_sh hl1) ⟨rfl, by decide, (zD_ge hl1)⟩ (congrArg (ztag _) (zM_no (zD_ge hl1) (zD_fx hl1 1 (by decide)))) ?_
    refine g_putI zp37 rfl rfl (zD_sh hl0) ⟨rfl, by decide, (zD_ge hl0)⟩ (zD_fx hl0 1 (by decide)) rfl ?_
    refine g_al zp37 rfl rfl rfl (Int.le_trans (by decide) (zD_ge hl0)) ?_
    refine g_al zp37 rfl rfl rfl (Int.le_trans (by decide) (zD_ge hl1)) ?_
    refine g_get (v := zI ((zup H l0 1 (H l1 1)) l1 2)) zp37 rfl rfl (zD_sh hl1) ⟨rfl, by decide, (zD_ge hl1)⟩ (congrArg (ztag _) (zM_no (zD_ge hl1) (zD_fx hl1 2 (by decide)))) ?_
    refine g_putI zp37 rfl rfl (zD_sh hl0) ⟨rfl, by decide, (zD_ge hl0)⟩ (zD_fx hl0 2 (by decide)) rfl ?_
    refine g_al zp37 rfl rfl rfl (Int.le_trans (by decide) (zD_ge hl0)) ?_
    refine g_al zp37 rfl rfl rfl (Int.le_trans (by decide) (zD_ge hl1)) ?_
    refine g_get (v := zI ((zup (zup H l0 1 (H l1 1)) l0 2 ((zup H l0 1 (H l1 1)) l1 2)) l1 3)) zp37 rfl rfl (zD_sh hl1) ⟨rfl, by decide, (zD_ge hl1)⟩ (congrArg (ztag _) (zM_no (zD_ge hl1) (zD_fx hl1 3 (by decide)))) ?_
    refine g_putI zp37 rfl rfl (zD_sh hl0) ⟨rfl, by decide, (zD_ge hl0)⟩ (zD_fx hl0 3 (by decide)) rfl ?_
    refine g_al zp37 rfl rfl rfl (Int.le_trans (by decide) (zD_ge hl0)) ?_
    refine g_al zp37 rfl rfl rfl (Int.le_trans (by decide) (zD_ge hl1)) ?_
    refine g_get (v := zI ((zup (zup (zup H l0 1 (H l1 1)) l0 2 ((zup H l0 1 (H l1 1)) l1 2)) l0 3 ((zup (zup H l0 1 (H l1 1)) l0 2 ((zup H l0 1 (H l1 1)) l1 2)) l1 3)) l1 4)) zp37 rfl rfl (zD_sh hl1) ⟨rfl, by decide, (zD_ge hl1)⟩ (congrArg (ztag _) (zM_no (zD_ge hl1) (zD_fx hl1 4 (by decide)))) ?_
    let v2 : Int := (zup (zup (zup H l0 1 (H l1 1)) l0 2 ((zup H l0 1 (H l1 1)) l1 2)) l0 3 ((zup (zup H l0 1 (H l1 1)) l0 2 ((zup H l0 1 (H l1 1)) l1 2)) l1 3)) l1 4
    replace h := h v2 rfl
    refine g_putI zp37 rfl rfl (zD_sh hl0) ⟨rfl, by decide, (zD_ge hl0)⟩ (zD_fx hl0 4 (by decide)) rfl ?_
    exact g_ret zp37 rfl rfl ⟨rfl, h⟩
  · replace h := h.2 c1
    refine g_al zp37 rfl rfl rfl (Int.le_trans (by decide) (zD_ge hl0)) ?_
    refine g_get (v := zR (l0 + 1)) zp37 rfl rfl (zD_sh hl0) ⟨rfl, by decide, (zD_ge hl0)⟩ (congrArg (ztag _) (zD_f0 hl0)) ?_
    refine g_il zp37 rfl rfl rfl ?_
    refine g_al zp37 rfl rfl rfl (Int.le_trans (by decide) (zD_ge hl1)) ?_
    refine g_get (v := zR (l1 + 1)) zp37 rfl rfl (zD_sh hl1) ⟨rfl, by decide, (zD_ge hl1)⟩ (congrArg (ztag _) (zD_f0 hl1)) ?_
    refine g_il zp37 rfl rfl rfl ?_
    obtain ⟨c3, h⟩ := h
    refine g_ald (v := zI (H (l1 + 1) l2)) zp37 rfl rfl (zD_sh1 hl1) rfl c3 (congrArg (ztag _) (zM_no (zD_ge1 hl1) (zD_fx1 hl1 _))) ?_
    refine g_iast zp37 rfl rfl (zD_sh1 hl0) (zD_ge1 hl0) (zD_fx1 hl0 _) c3 ?_
    refine g_inc (ls' := [zR l0, zR l1, zI (w32 (l2 + 1))]) zp37 rfl rfl rfl rfl ?_
    refine g_goto zp37 rfl ?_
    exact g_weak (ls' := [zR l0, zR l1, zI (w32 (l2 + 1))]) ⟨Or.inr rfl, Or.inr rfl, Or.inr rfl, trivial⟩ h
theorem zp38 : zprog.getD 38 [] = zk38 := rfl
theorem x38_0 {w : zWt} {d : Nat} {H : zHt} {K : zHt → Prop} 
    (h : zgo w d 38 2 [zR 32, zI 0] [] H (zQV K)) :
    zclV w d 38 [zR 32] H K := by
  show zgo w d 38 0 [zR 32, zJ] [] H (zQV K)
  refine g_ic zp38 rfl rfl ?_
  refine g_is (ls' := [zR 32, zI 0]) zp38 rfl rfl (Nat.le_of_ble_eq_true rfl) rfl ?_
  exact g_weak (ls' := [zR 32, zI 0]) ⟨Or.inr rfl, Or.inr rfl, trivial⟩ h
theorem x38_2 {w : zWt} {d : Nat} {H : zHt} {K : zHt → Prop} {l1 : Int}
    (h : (6 ≤ l1 → K H) ∧ (l1 < 6 → (0 ≤ l1 ∧ l1 < 6) ∧ zgo w d 38 2 [zR 32, zI (w32 (l1 + 1))] [] (zup H (69 + 2 * l1) 4 0) (zQV K))) :
    zgo w d 38 2 [zR 32, zI l1] [] H (zQV K) := by
  refine g_il zp38 rfl rfl rfl ?_
  refine g_al zp38 rfl rfl rfl (by decide) ?_
  refine g_get (v := zR 45) zp38 rfl rfl rfl ⟨rfl, by decide, (by decide)⟩ rfl ?_
  refine g_len zp38 rfl rfl rfl (by decide) ?_
  refine g_icmp zp38 rfl rfl zc3 (fun c1 => ?_) (fun c1 => ?_)
  · replace h := h.1 c1
    exact g_ret zp38 rfl rfl ⟨rfl, h⟩
  · replace h := h.2 c1
    refine g_al zp38 rfl rfl rfl (by decide) ?_
    refine g_get (v := zR 45) zp38 rfl rfl rfl ⟨rfl, by decide, (by decide)⟩ rfl ?_
    refine g_il zp38 rfl rfl rfl ?_
    obtain ⟨c2, h⟩ := h
    refine g_ald (v := zR (69 + 2 * l1)) zp38 rfl rfl rfl rfl c2 (congrArg (ztag _) (zwk_val c2)) ?_
    refine g_ic zp38 rfl rfl ?_
    refine g_putI zp38 rfl rfl (zW_sh (zW_walk c2)) ⟨rfl, by decide, (zW_ge (zW_walk c2))⟩ (zW_fx (zW_walk c2) 4 (by decide)) (zokv3 (by decide)) ?_
    refine g_inc (ls' := [zR 32, zI (w32 (l1 + 1))]) zp38 rfl rfl rfl rfl ?_
    refine g_goto zp38 rfl ?_
    exact g_weak (ls' := [zR 32, zI (w32 (l1 + 1))]) ⟨Or.inr rfl, Or.inr rfl, trivial⟩ h
theorem zp39 : zprog.getD 39 [] = zk39 := rfl
theorem x39_0 {w : zWt} {d : Nat} {H : zHt} {K : Int → zHt → Prop} {l1 : Int}
    (h : K l1 (zup H 32 14 0)) :
    zclI w d 39 [zR 32, zI l1] H K := by
  show zgo w d 39 0 [zR 32, zI l1] [] H (zQI K)
  refine g_al zp39 rfl rfl rfl (by decide) ?_
  refine g_ic zp39 rfl rfl ?_
  refine g_putI zp39 rfl rfl rfl ⟨rfl, by decide, (by decide)⟩ rfl rfl ?_
  refine g_il zp39 rfl rfl rfl ?_
  exact g_ret zp39 rfl rfl ⟨_, rfl, h⟩
theorem zp40 : zprog.getD 40 [] = zk40 := rfl
theorem x40_0 {w : zWt} {d : Nat} {H : zHt} {K : Int → zHt → Prop} {l1 : Int}
    (h : (¬ l1 = 0 → (¬ l1 = 1 → K (-1) H) ∧ (l1 = 1 → K (H 32 13) H)) ∧ (l1 = 0 → K (H 32 12) H)) :
    zclI w d 40 [zR 32, zI l1] H K := by
  show zgo w d 40 0 [zR 32, zI l1] [] H (zQI K)
  refine g_il zp40 rfl rfl rfl ?_
  refine g_if zp40 rfl rfl zc1 (fun c1 => ?_) (fun c1 => ?_)
  · replace h := h.1 c1
    refine g_il zp40 rfl rfl rfl ?_
    refine g_ic zp40 rfl rfl ?_
    refine g_icmp zp40 rfl rfl zc1 (fun c2 => ?_) (fun c2 => ?_)
    · replace h := h.1 c2
      refine g_ic zp40 rfl rfl ?_
      exact g_ret zp40 rfl rfl ⟨_, rfl, h⟩
    · replace h := h.2 c2
      refine g_al zp40 rfl rfl rfl (by decide) ?_
      refine g_get (v := zI (H 32 13)) zp40 rfl rfl rfl ⟨rfl, by decide, (by decide)⟩ rfl ?_
      refine g_goto zp40 rfl ?_
      exact g_ret zp40 rfl rfl ⟨_, rfl, h⟩
  · replace h := h.2 c1
    refine g_al zp40 rfl rfl rfl (by decide) ?_
    refine g_get (v := zI (H 32 12)) zp40 rfl rfl rfl ⟨rfl, by decide, (by decide)⟩ rfl ?_
    exact g_ret zp40 rfl rfl ⟨_, rfl, h⟩
theorem zp41 : zprog.getD 41 [] = zk41 := rfl
theorem x41_0 {w : zWt} {d : Nat} {H : zHt} {K : Int → zHt → Prop} {l1 : Int}
    (h : (l1 < 0 ∨ 5 ≤ l1 → zclI w d 13 [zR 32, zI 1] H (fun x2 H1 => K x2 H1)) ∧ (l1 = 0 → zclI w d 39 [zR 32, zI (H 40 1)] H (fun x4 H3 => K x4 H3)) ∧ (l1 = 1 → zclI w d 39 [zR 32, zI (H 40 2)] H (fun x6 H5 => K x6 H5)) ∧ (l1 = 2 → zclI w d 39 [zR 32, zI (H 40 3)] H (fun x8 H7 => K x8 H7)) ∧ (l1 = 3 → zclI w d 39 [zR 32, zI (H 40 4)] H (fun x10 H9 => K x10 H9)) ∧ (l1 = 4 → zclI w d 39 [zR 32, zI (H 32 11)] H (fun x12 H11 => K x12 H11))) :
    zclI w (d + 1) 41 [zR 32, zI l1] H K := by
  show zgo w (d + 1) 41 0 [zR 32, zI l1] [] H (zQI K)
  refine g_il zp41 rfl rfl rfl ?_
  rcases Classical.em (l1 < 0 ∨ 5 ≤ l1) with c | c
  · refine g_tabO zp41 rfl c ?_
    replace h := h.1 c
    refine g_al zp41 rfl rfl rfl (by decide) ?_
    refine g_ic zp41 rfl rfl ?_
    refine g_callI (as := [zR 32, zI 1]) (rest := []) zp41 rfl rfl (Nat.succ_pos _) rfl rfl (Nat.le_of_ble_eq_true rfl) (Nat.le_of_ble_eq_true rfl) rfl rfl h (fun x2 H1 h => ?_)
    exact g_ret zp41 rfl rfl ⟨_, rfl, h⟩
  · replace h := h.2
    have hh : l1 = 0 ∨ l1 = 1 ∨ l1 = 2 ∨ l1 = 3 ∨ l1 = 4 := by omega
    rcases hh with c | c | c | c | c
    · replace h := h.1 c
      refine g_tabE (z := 0) zp41 rfl c (by decide) rfl ?_
      refine g_al zp41 rfl rfl rfl (by decide) ?_
      refine g_al zp41 rfl rfl rfl (by decide) ?_
      refine g_get (v := zR 40) zp41 rfl rfl rfl ⟨rfl, by decide, (by decide)⟩ rfl ?_
      refine g_get (v := zI (H 40 1)) zp41 rfl rfl rfl ⟨rfl, by decide, (by decide)⟩ rfl ?_
      refine g_callI (as := [zR 32, zI (H 40 1)]) (rest := []) zp41 rfl rfl (Nat.succ_pos _) rfl rfl (Nat.le_of_ble_eq_true rfl) (Nat.le_of_ble_eq_true rfl) rfl rfl h (fun x4 H3 h => ?_)
      exact g_ret zp41 rfl rfl ⟨_, rfl, h⟩
    · replace h := h.2.1 c
      refine g_tabE (z := 1) zp41 rfl c (by decide) rfl ?_
      refine g_al zp41 rfl rfl rfl (by decide) ?_
      refine g_al zp41 rfl rfl rfl (by decide) ?_
      refine g_get (v := zR 40) zp41 rfl rfl rfl ⟨rfl, by decide, (by decide)⟩ rfl ?_
      refine g_get (v := zI (H 40 2)) zp41 rfl rfl rfl ⟨rfl, by decide, (by decide)⟩ rfl ?_
      refine g_callI (as := [zR 32, zI (H 40 2)]) (rest := []) zp41 rfl rfl (Nat.succ_pos _) rfl rfl (Nat.le_of_ble_eq_true rfl) (Nat.le_of_ble_eq_true rfl) rfl rfl h (fun x6 H5 h => ?_)
      exact g_ret zp41 rfl rfl ⟨_, rfl, h⟩
    · replace h := h.2.2.1 c
      refine g_tabE (z := 2) zp41 rfl c (by decide) rfl ?_
      refine g_al zp41 rfl rfl rfl (by decide) ?_
      refine g_al zp41 rfl rfl rfl (by decide) ?_
      refine g_get (v := zR 40) zp41 rfl rfl rfl ⟨rfl, by decide, (by decide)⟩ rfl ?_
      refine g_get (v := zI (H 40 3)) zp41 rfl rfl rfl ⟨rfl, by decide, (by decide)⟩ rfl ?_
      refine g_callI (as := [zR 32, zI (H 40 3)]) (rest := []) zp41 rfl rfl (Nat.succ_pos _) rfl rfl (Nat.le_of_ble_eq_true rfl) (Nat.le_of_ble_eq_true rfl) rfl rfl h (fun x8 H7 h => ?_)
      exact g_ret zp41 rfl rfl ⟨_, rfl, h⟩
    · replace h := h.2.2.2.1 c
      refine g_tabE (z := 3) zp41 rfl c (by decide) rfl ?_
      refine g_al zp41 rfl rfl rfl (by decide) ?_
      refine g_al zp41 rfl rfl rfl (by decide) ?_
      refine g_get (v := zR 40) zp41 rfl rfl rfl ⟨rfl, by decide, (by decide)⟩ rfl ?_
      refine g_get (v := zI (H 40 4)) zp41 rfl rfl rfl ⟨rfl, by decide, (by decide)⟩ rfl ?_
      refine g_callI (as := [zR 32, zI (H 40 4)]) (rest := []) zp41 rfl rfl (Nat.succ_pos _) rfl rfl (Nat.le_of_ble_eq_true rfl) (Nat.le_of_ble_eq_true rfl) rfl rfl h (fun x10 H9 h => ?_)
      exact g_ret zp41 rfl rfl ⟨_, rfl, h⟩
    · replace h := h.2.2.2.2 c
      refine g_tabE (z := 4) zp41 rfl c (by decide) rfl ?_
      refine g_al zp41 rfl rfl rfl (by decide) ?_
      refine g_al zp41 rfl rfl rfl (by decide) ?_
      refine g_get (v := zI (H 32 11)) zp41 rfl rfl rfl ⟨rfl, by decide, (by decide)⟩ rfl ?_
      refine g_callI (as := [zR 32, zI (H 32 11)]) (rest := []) zp41 rfl rfl (Nat.succ_pos _) rfl rfl (Nat.le_of_ble_eq_true rfl) (Nat.le_of_ble_eq_true rfl) rfl rfl h (fun x12 H11 h => ?_)
      exact g_ret zp41 rfl rfl ⟨_, rfl, h⟩
theorem zp42 : zprog.getD 42 [] = zk42 := rfl
theorem x42_0 {w : zWt} {d : Nat} {H : zHt} {K : Int → zHt → Prop} {l1 : Int} {l2 : Int} {l3 : Int}
    (h : zclI w d 43 [zI l1] H (fun x2 H1 => (x2 = 0 → zclI w d 13 [zR 32, zI 1] H1 (fun x5 H4 => K x5 H4)) ∧ (¬ x2 = 0 → (l2 < (-1) → zclI w d 13 [zR 32, zI 1] H1 (fun x8 H7 => K x8 H7)) ∧ ((-1) ≤ l2 → zclI w d 44 [zI l3, zI 1] H1 (fun x10 H9 => (¬ x10 = 0 → zclV w d 45 [zR 36, zI l1] H9 (fun H12 => (¬ l2 = (-1) → (l2 < (H12 36 3) → (¬ l3 = 0 → (0 ≤ l2 ∧ l2 < 9) ∧ zclI w d 39 [zR 32, zI (H12 38 l2)] H12 (fun x19 H18 => K x19 H18)) ∧ (l3 = 0 → (0 ≤ l2 ∧ l2 < 9) ∧ zclI w d 39 [zR 32, zI (H12 37 l2)] H12 (fun x22 H21 => K x22 H21))) ∧ ((H12 36 3) ≤ l2 → zclI w d 13 [zR 32, zI 5] H12 (fun x24 H23 => K x24 H23))) ∧ (l2 = (-1) → zclI w d 39 [zR 32, zI (H12 36 3)] H12 (fun x26 H25 => K x26 H25)))) ∧ (x10 = 0 → zclI w d 13 [zR 32, zI 1] H9 (fun x28 H27 => K x28 H27))))))) :
    zclI w (d + 1) 42 [zR 32, zI l1, zI l2, zI l3] H K := by
  show zgo w (d + 1) 42 0 [zR 32, zI l1, zI l2, zI l3] [] H (zQI K)
  refine g_il zp42 rfl rfl rfl ?_
  refine g_callI (as := [zI l1]) (rest := []) zp42 rfl rfl (Nat.succ_pos _) rfl rfl (Nat.le_of_ble_eq_true rfl) (Nat.le_of_ble_eq_true rfl) rfl rfl h (fun x2 H1 h => ?_)
  refine g_if zp42 rfl rfl zc0 (fun c3 => ?_) (fun c3 => ?_)
  · replace h := h.1 c3
    refine g_al zp42 rfl rfl rfl (by decide) ?_
    refine g_ic zp42 rfl rfl ?_
    refine g_callI (as := [zR 32, zI 1]) (rest := []) zp42 rfl rfl (Nat.succ_pos _) rfl rfl (Nat.le_of_ble_eq_true rfl) (Nat.le_of_ble_eq_true rfl) rfl rfl h (fun x5 H4 h => ?_)
    exact g_ret zp42 rfl rfl ⟨_, rfl, h⟩
  · replace h := h.2 c3
    refine g_il zp42 rfl rfl rfl ?_
    refine g_ic zp42 rfl rfl ?_
    refine g_icmp zp42 rfl rfl zc2 (fun c6 => ?_) (fun c6 => ?_)
    · replace h := h.1 c6
      refine g_al zp42 rfl rfl rfl (by decide) ?_
      refine g_ic zp42 rfl rfl ?_
      refine g_callI (as := [zR 32, zI 1]) (rest := []) zp42 rfl rfl (Nat.succ_pos _) rfl rfl (Nat.le_of_ble_eq_true rfl) (Nat.le_of_ble_eq_true rfl) rfl rfl h (fun x8 H7 h => ?_)
      exact g_ret zp42 rfl rfl ⟨_, rfl, h⟩
    · replace h := h.2 c6
      refine g_il zp42 rfl rfl rfl ?_
      refine g_ic zp42 rfl rfl ?_
      refine g_callI (as := [zI l3, zI 1]) (rest := []) zp42 rfl rfl (Nat.succ_pos _) rfl rfl (Nat.le_of_ble_eq_true rfl) (Nat.le_of_ble_eq_true rfl) rfl rfl h (fun x10 H9 h => ?_)
      refine g_if zp42 rfl rfl zc1 (fun c11 => ?_) (fun c11 => ?_)
      · replace h := h.1 c11
        refine g_al zp42 rfl rfl rfl (by decide) ?_
        refine g_get (v := zR 36) zp42 rfl rfl rfl ⟨rfl, by decide, (by decide)⟩ rfl ?_
        refine g_il zp42 rfl rfl rfl ?_
        refine g_callV (as := [zR 36, zI l1]) (rest := []) zp42 rfl rfl (Nat.succ_pos _) rfl rfl (Nat.le_of_ble_eq_true rfl) (Nat.le_of_ble_eq_true rfl) rfl rfl h (fun H12 h => ?_)
        refine g_il zp42 rfl rfl rfl ?_
        refine g_ic zp42 rfl rfl ?_
        refine g_icmp zp42 rfl rfl zc1 (fun c14 => ?_) (fun c14 => ?_)
        · replace h := h.1 c14
          refine g_il zp42 rfl rfl rfl ?_
          refine g_al zp42 rfl rfl rfl (by decide) ?_
          refine g_get (v := zR 36) zp42 rfl rfl rfl ⟨rfl, by decide, (by decide)⟩ rfl ?_
          refine g_get (v := zI (H12 36 3)) zp42 rfl rfl rfl ⟨rfl, by decide, (by decide)⟩ rfl ?_
          refine g_icmp zp42 rfl rfl zc2 (fun c15 => ?_) (fun c15 => ?_)
          · replace h := h.1 c15
            refine g_al zp42 rfl rfl rfl (by decide) ?_
            refine g_il zp42 rfl rfl rfl ?_
            refine g_if zp42 rfl rfl zc1 (fun c16 => ?_) (fun c16 => ?_)
            · replace h := h.1 c16
              refine g_al zp42 rfl rfl rfl (by decide) ?_
              refine g_get (v := zR 36) zp42 rfl rfl rfl ⟨rfl, by decide, (by decide)⟩ rfl ?_
              refine g_get (v := zR 38) zp42 rfl rfl rfl ⟨rfl, by decide, (by decide)⟩ rfl ?_
              refine g_il zp42 rfl rfl rfl ?_
              obtain ⟨c17, h⟩ := h
              refine g_ald (v := zI (H12 38 l2)) zp42 rfl rfl rfl rfl c17 rfl ?_
              refine g_callI (as := [zR 32, zI (H12 38 l2)]) (rest := []) zp42 rfl rfl (Nat.succ_pos _) rfl rfl (Nat.le_of_ble_eq_true rfl) (Nat.le_of_ble_eq_true rfl) rfl rfl h (fun x19 H18 h => ?_)
              exact g_ret zp42 rfl rfl ⟨_, rfl, h⟩
            · replace h := h.2 c16
              refine g_al zp42 rfl rfl rfl (by decide) ?_
              refine g_get (v := zR 36) zp42 rfl rfl rfl ⟨rfl, by decide, (by decide)⟩ rfl ?_
              refine g_get (v := zR 37) zp42 rfl rfl rfl ⟨rfl, by decide, (by decide)⟩ rfl ?_
              refine g_il zp42 rfl rfl rfl ?_
              obtain ⟨c20, h⟩ := h
              refine g_ald (v := zI (H12 37 l2)) zp42 rfl rfl rfl rfl c20 rfl ?_
              refine g_goto zp42 rfl ?_
              refine g_callI (as := [zR 32, zI (H12 37 l2)]) (rest := []) zp42 rfl rfl (Nat.succ_pos _) rfl rfl (Nat.le_of_ble_eq_true rfl) (Nat.le_of_ble_eq_true rfl) rfl rfl h (fun x22 H21 h => ?_)
              exact g_ret zp42 rfl rfl ⟨_, rfl, h⟩
          · replace h := h.2 c15
            refine g_al zp42 rfl rfl rfl (by decide) ?_
            refine g_ic zp42 rfl rfl ?_
            refine g_callI (as := [zR 32, zI 5]) (rest := []) zp42 rfl rfl (Nat.succ_pos _) rfl rfl (Nat.le_of_ble_eq_true rfl) (Nat.le_of_ble_eq_true rfl) rfl rfl h (fun x24 H23 h => ?_)
            exact g_ret zp42 rfl rfl ⟨_, rfl, h⟩
        · replace h := h.2 c14
          refine g_al zp42 rfl rfl rfl (by decide) ?_
          refine g_al zp42 rfl rfl rfl (by decide) ?_
          refine g_get (v := zR 36) zp42 rfl rfl rfl ⟨rfl, by decide, (by decide)⟩ rfl ?_
          refine g_get (v := zI (H12 36 3)) zp42 rfl rfl rfl ⟨rfl, by decide, (by decide)⟩ rfl ?_
          refine g_callI (as := [zR 32, zI (H12 36 3)]) (rest := []) zp42 rfl rfl (Nat.succ_pos _) rfl rfl (Nat.le_of_ble_eq_true rfl) (Nat.le_of_ble_eq_true rfl) rfl rfl h (fun x26 H25 h => ?_)
          exact g_ret zp42 rfl rfl ⟨_, rfl, h⟩
      · replace h := h.2 c11
        refine g_al zp42 rfl rfl rfl (by decide) ?_
        refine g_ic zp42 rfl rfl ?_
        refine g_callI (as := [zR 32, zI 1]) (rest := []) zp42 rfl rfl (Nat.succ_pos _) rfl rfl (Nat.le_of_ble_eq_true rfl) (Nat.le_of_ble_eq_true rfl) rfl rfl h (fun x28 H27 h => ?_)
        exact g_ret zp42 rfl rfl ⟨_, rfl, h⟩
theorem zp43 : zprog.getD 43 [] = zk43 := rfl
theorem x43_0 {w : zWt} {d : Nat} {H : zHt} {K : Int → zHt → Prop} {l0 : Int}
    (h : (l0 < 1 → K 0 H) ∧ (1 ≤ l0 → (999999999 < l0 → K 0 H) ∧ (l0 ≤ 999999999 → K 1 H))) :
    zclI w d 43 [zI l0] H K := by
  show zgo w d 43 0 [zI l0] [] H (zQI K)
  refine g_il zp43 rfl rfl rfl ?_
  refine g_ic zp43 rfl rfl ?_
  refine g_icmp zp43 rfl rfl zc2 (fun c1 => ?_) (fun c1 => ?_)
  · replace h := h.1 c1
    refine g_ic zp43 rfl rfl ?_
    exact g_ret zp43 rfl (zret_b (by decide)) ⟨_, rfl, h⟩
  · replace h := h.2 c1
    refine g_il zp43 rfl rfl rfl ?_
    refine g_ic zp43 rfl rfl ?_
    refine g_icmp zp43 rfl rfl zc4 (fun c2 => ?_) (fun c2 => ?_)
    · replace h := h.1 c2
      refine g_ic zp43 rfl rfl ?_
      exact g_ret zp43 rfl (zret_b (by decide)) ⟨_, rfl, h⟩
    · replace h := h.2 c2
      refine g_ic zp43 rfl rfl ?_
      refine g_goto zp43 rfl ?_
      exact g_ret zp43 rfl (zret_b (by decide)) ⟨_, rfl, h⟩
theorem zp44 : zprog.getD 44 [] = zk44 := rfl
theorem x44_0 {w : zWt} {d : Nat} {H : zHt} {K : Int → zHt → Prop} {l0 : Int} {l1 : Int}
    (h : (l0 < 0 → K 0 H) ∧ (0 ≤ l0 → (l1 < l0 → K 0 H) ∧ (l0 ≤ l1 → K 1 H))) :
    zclI w d 44 [zI l0, zI l1] H K := by
  show zgo w d 44 0 [zI l0, zI l1] [] H (zQI K)
  refine g_il zp44 rfl rfl rfl ?_
  refine g_if zp44 rfl rfl zc2 (fun c1 => ?_) (fun c1 => ?_)
  · replace h := h.1 c1
    refine g_ic zp44 rfl rfl ?_
    exact g_ret zp44 rfl (zret_b (by decide)) ⟨_, rfl, h⟩
  · replace h := h.2 c1
    refine g_il zp44 rfl rfl rfl ?_
    refine g_il zp44 rfl rfl rfl ?_
    refine g_icmp zp44 rfl rfl zc4 (fun c2 => ?_) (fun c2 => ?_)
    · replace h := h.1 c2
      refine g_ic zp44 rfl rfl ?_
      exact g_ret zp44 rfl (zret_b (by decide)) ⟨_, rfl, h⟩
    · replace h := h.2 c2
      refine g_ic zp44 rfl rfl ?_
      refine g_goto zp44 rfl ?_
      exact g_ret zp44 rfl (zret_b (by decide)) ⟨_, rfl, h⟩
theorem zp45 : zprog.getD 45 [] = zk45 := rfl
theorem x45_0 {w : zWt} {d : Nat} {H : zHt} {K : zHt → Prop} {l1 : Int}
    (h : zgo w (d + 1) 45 9 [zR 36, zJ, zI l1, zI 0] [] (zup H 36 3 0) (zQV K)) :
    zclV w (d + 1) 45 [zR 36, zI l1] H K := by
  show zgo w (d + 1) 45 0 [zR 36, zI l1, zJ, zJ] [] H (zQV K)
  refine g_al zp45 rfl rfl rfl (by decide) ?_
  refine g_ic zp45 rfl rfl ?_
  refine g_putI zp45 rfl rfl rfl ⟨rfl, by decide, (by decide)⟩ rfl rfl ?_
  refine g_il zp45 rfl rfl rfl ?_
  refine g_is (ls' := [zR 36, zI l1, zI l1, zJ]) zp45 rfl rfl (Nat.le_of_ble_eq_true rfl) rfl ?_
  refine g_ic zp45 rfl rfl ?_
  refine g_is (ls' := [zR 36, zI l1, zI l1, zI 0]) zp45 rfl rfl (Nat.le_of_ble_eq_true rfl) rfl ?_
  exact g_weak (ls' := [zR 36, zJ, zI l1, zI 0]) ⟨Or.inr rfl, Or.inl rfl, Or.inr rfl, Or.inr rfl, trivial⟩ h
theorem x45_9 {w : zWt} {d : Nat} {H : zHt} {K : zHt → Prop} {l2 : Int} {l3 : Int}
    (h : (168 ≤ l3 → zgo w (d + 1) 45 49 [zR 36, zJ, zI l2, zJ] [] H (zQV K)) ∧ (l3 < 168 → (0 ≤ l3 ∧ l3 < 168) ∧ (l2 < (w32 ((zH0 w.2.1 1 l3) * (zH0 w.2.1 1 l3))) → zgo w (d + 1) 45 49 [zR 36, zJ, zI l2, zJ] [] H (zQV K)) ∧ ((w32 ((zH0 w.2.1 1 l3) * (zH0 w.2.1 1 l3))) ≤ l2 → zclI w d 46 [zR 36, zI l2, zI (zH0 w.2.1 1 l3)] H (fun x5 H4 => zgo w (d + 1) 45 9 [zR 36, zJ, zI x5, zI (w32 (l3 + 1))] [] H4 (zQV K))))) :
    zgo w (d + 1) 45 9 [zR 36, zJ, zI l2, zI l3] [] H (zQV K) := by
  refine g_il zp45 rfl rfl rfl ?_
  refine g_stat (v := zR 1) zp45 rfl rfl rfl ?_
  refine g_len zp45 rfl rfl rfl (by decide) ?_
  refine g_icmp zp45 rfl rfl zc3 (fun c1 => ?_) (fun c1 => ?_)
  · replace h := h.1 c1
    exact g_weak (ls' := [zR 36, zJ, zI l2, zJ]) ⟨Or.inr rfl, Or.inr rfl, Or.inr rfl, Or.inl rfl, trivial⟩ h
  · replace h := h.2 c1
    refine g_stat (v := zR 1) zp45 rfl rfl rfl ?_
    refine g_il zp45 rfl rfl rfl ?_
    obtain ⟨c2, h⟩ := h
    refine g_ald (v := zI (zH0 w.2.1 1 l3)) zp45 rfl rfl rfl rfl c2 rfl ?_
    refine g_stat (v := zR 1) zp45 rfl rfl rfl ?_
    refine g_il zp45 rfl rfl rfl ?_
    refine g_ald (v := zI (zH0 w.2.1 1 l3)) zp45 rfl rfl rfl rfl c2 rfl ?_
    refine g_ar (r := w32 ((zH0 w.2.1 1 l3) * (zH0 w.2.1 1 l3))) zp45 rfl rfl rfl ?_
    refine g_il zp45 rfl rfl rfl ?_
    refine g_icmp zp45 rfl rfl zc4 (fun c3 => ?_) (fun c3 => ?_)
    · replace h := h.1 c3
      exact g_weak (ls' := [zR 36, zJ, zI l2, zJ]) ⟨Or.inr rfl, Or.inr rfl, Or.inr rfl, Or.inl rfl, trivial⟩ h
    · replace h := h.2 c3
      refine g_al zp45 rfl rfl rfl (by decide) ?_
      refine g_il zp45 rfl rfl rfl ?_
      refine g_stat (v := zR 1) zp45 rfl rfl rfl ?_
      refine g_il zp45 rfl rfl rfl ?_
      refine g_ald (v := zI (zH0 w.2.1 1 l3)) zp45 rfl rfl rfl rfl c2 rfl ?_
      refine g_callI (as := [zR 36, zI l2, zI (zH0 w.2.1 1 l3)]) (rest := []) zp45 rfl rfl (Nat.succ_pos _) rfl rfl (Nat.le_of_ble_eq_true rfl) (Nat.le_of_ble_eq_true rfl) rfl rfl h (fun x5 H4 h => ?_)
      refine g_is (ls' := [zR 36, zJ, zI x5, zI l3]) zp45 rfl rfl (Nat.le_of_ble_eq_true rfl) rfl ?_
      refine g_inc (ls' := [zR 36, zJ, zI x5, zI (w32 (l3 + 1))]) zp45 rfl rfl rfl rfl ?_
      refine g_goto zp45 rfl ?_
      exact g_weak (ls' := [zR 36, zJ, zI x5, zI (w32 (l3 + 1))]) ⟨Or.inr rfl, Or.inr rfl, Or.inr rfl, Or.inr rfl, trivial⟩ h
theorem x45_49 {w : zWt} {d : Nat} {H : zHt} {K : zHt → Prop} {l2 : Int}
    (h : (l2 < 1018081 → (l2 ≤ 1 → K H) ∧ (1 < l2 → zclV w d 47 [zR 36, zI l2, zI 1] H (fun H3 => K H3))) ∧ (1018081 ≤ l2 → zclI w d 48 [zI l2, zI 2] H (fun x6 H5 => (x6 = 0 → zclI w d 50 [zI l2] H5 (fun x9 H8 => zclI w d 46 [zR 36, zI l2, zI x9] H8 (fun x11 H10 => (x11 ≤ 1 → K H10) ∧ (1 < x11 → zclV w d 47 [zR 36, zI x11, zI 1] H10 (fun H13 => K H13))))) ∧ (¬ x6 = 0 → zclI w d 48 [zI l2, zI 7] H5 (fun x16 H15 => (x16 = 0 → zclI w d 50 [zI l2] H15 (fun x19 H18 => zclI w d 46 [zR 36, zI l2, zI x19] H18 (fun x21 H20 => (x21 ≤ 1 → K H20) ∧ (1 < x21 → zclV w d 47 [zR 36, zI x21, zI 1] H20 (fun H23 => K H23))))) ∧ (¬ x16 = 0 → zclI w d 48 [zI l2, zI 61] H15 (fun x26 H25 => (¬ x26 = 0 → (l2 ≤ 1 → K H25) ∧ (1 < l2 → zclV w d 47 [zR 36, zI l2, zI 1] H25 (fun H29 => K H29))) ∧ (x26 = 0 → zclI w d 50 [zI l2] H25 (fun x32 H31 => zclI w d 46 [zR 36, zI l2, zI x32] H31 (fun x34 H33 => (x34 ≤ 1 → K H33) ∧ (1 < x34 → zclV w d 47 [zR 36, zI x34, zI 1] H33 (fun H36 => K H36)))))))))))) :
    zgo w (d + 1) 45 49 [zR 36, zJ, zI l2, zJ] [] H (zQV K) := by
  refine g_il zp45 rfl rfl rfl ?_
  refine g_ic zp45 rfl rfl ?_
  refine g_icmp zp45 rfl rfl zc2 (fun c1 => ?_) (fun c1 => ?_)
  · replace h := h.1 c1
    refine g_il zp45 rfl rfl rfl ?_
    refine g_ic zp45 rfl rfl ?_
    refine g_icmp zp45 rfl rfl zc5 (fun c2 => ?_) (fun c2 => ?_)
    · replace h := h.1 c2
      exact g_ret zp45 rfl rfl ⟨rfl, h⟩
    · replace h := h.2 c2
      refine g_al zp45 rfl rfl rfl (by decide) ?_
      refine g_il zp45 rfl rfl rfl ?_
      refine g_ic zp45 rfl rfl ?_
      refine g_callV (as := [zR 36, zI l2, zI 1]) (rest := []) zp45 rfl rfl (Nat.succ_pos _) rfl rfl (Nat.le_of_ble_eq_true rfl) (Nat.le_of_ble_eq_true rfl) rfl rfl h (fun H3 h => ?_)
      exact g_ret zp45 rfl rfl ⟨rfl, h⟩
  · replace h := h.2 c1
    refine g_il zp45 rfl rfl rfl ?_
    refine g_ic zp45 rfl rfl ?_
    refine g_callI (as := [zI l2, zI 2]) (rest := []) zp45 rfl rfl (Nat.succ_pos _) rfl rfl (Nat.le_of_ble_eq_true rfl) (Nat.le_of_ble_eq_true rfl) rfl rfl h (fun x6 H5 h => ?_)
    refine g_if zp45 rfl rfl zc0 (fun c7 => ?_) (fun c7 => ?_)
    · replace h := h.1 c7
      refine g_al zp45 rfl rfl rfl (by decide) ?_
      refine g_il zp45 rfl rfl rfl ?_
      refine g_il zp45 rfl rfl rfl ?_
      refine g_callI (as := [zI l2]) (rest := [zI l2, zR 36]) zp45 rfl rfl (Nat.succ_pos _) rfl rfl (Nat.le_of_ble_eq_true rfl) (Nat.le_of_ble_eq_true rfl) rfl rfl h (fun x9 H8 h => ?_)
      refine g_callI (as := [zR 36, zI l2, zI x9]) (rest := []) zp45 rfl rfl (Nat.succ_pos _) rfl rfl (Nat.le_of_ble_eq_true rfl) (Nat.le_of_ble_eq_true rfl) rfl rfl h (fun x11 H10 h => ?_)
      refine g_is (ls' := [zR 36, zJ, zI x11, zJ]) zp45 rfl rfl (Nat.le_of_ble_eq_true rfl) rfl ?_
      refine g_il zp45 rfl rfl rfl ?_
      refine g_ic zp45 rfl rfl ?_
      refine g_icmp zp45 rfl rfl zc5 (fun c12 => ?_) (fun c12 => ?_)
      · replace h := h.1 c12
        exact g_ret zp45 rfl rfl ⟨rfl, h⟩
      · replace h := h.2 c12
        refine g_al zp45 rfl rfl rfl (by decide) ?_
        refine g_il zp45 rfl rfl rfl ?_
        refine g_ic zp45 rfl rfl ?_
        refine g_callV (as := [zR 36, zI x11, zI 1]) (rest := []) zp45 rfl rfl (Nat.succ_pos _) rfl rfl (Nat.le_of_ble_eq_true rfl) (Nat.le_of_ble_eq_true rfl) rfl rfl h (fun H13 h => ?_)
        exact g_ret zp45 rfl rfl ⟨rfl, h⟩
    · replace h := h.2 c7
      refine g_il zp45 rfl rfl rfl ?_
      refine g_ic zp45 rfl rfl ?_
      refine g_callI (as := [zI l2, zI 7]) (rest := []) zp45 rfl rfl (Nat.succ_pos _) rfl rfl (Nat.le_of_ble_eq_true rfl) (Nat.le_of_ble_eq_true rfl) rfl rfl h (fun x16 H15 h => ?_)
      refine g_if zp45 rfl rfl zc0 (fun c17 => ?_) (fun c17 => ?_)
      · replace h := h.1 c17
        refine g_al zp45 rfl rfl rfl (by decide) ?_
        refine g_il zp45 rfl rfl rfl ?_
        refine g_il zp45 rfl rfl rfl ?_
        refine g_callI (as := [zI l2]) (rest := [zI l2, zR 36]) zp45 rfl rfl (Nat.succ_pos _) rfl rfl (Nat.le_of_ble_eq_true rfl) (Nat.le_of_ble_eq_true rfl) rfl rfl h (fun x19 H18 h => ?_)
        refine g_callI (as := [zR 36, zI l2, zI x19]) (rest := []) zp45 rfl rfl (Nat.succ_pos _) rfl rfl (Nat.le_of_ble_eq_true rfl) (Nat.le_of_ble_eq_true rfl) rfl rfl h (fun x21 H20 h => ?_)
        refine g_is (ls' := [zR 36, zJ, zI x21, zJ]) zp45 rfl rfl (Nat.le_of_ble_eq_true rfl) rfl ?_
        refine g_il zp45 rfl rfl rfl ?_
        refine g_ic zp45 rfl rfl ?_
        refine g_icmp zp45 rfl rfl zc5 (fun c22 => ?_) (fun c22 => ?_)
        · replace h := h.1 c22
          exact g_ret zp45 rfl rfl ⟨rfl, h⟩
        · replace h := h.2 c22
          refine g_al zp45 rfl rfl rfl (by decide) ?_
          refine g_il zp45 rfl rfl rfl ?_
          refine g_ic zp45 rfl rfl ?_
          refine g_callV (as := [zR 36, zI x21, zI 1]) (rest := []) zp45 rfl rfl (Nat.succ_pos _) rfl rfl (Nat.le_of_ble_eq_true rfl) (Nat.le_of_ble_eq_true rfl) rfl rfl h (fun H23 h => ?_)
          exact g_ret zp45 rfl rfl ⟨rfl, h⟩
      · replace h := h.2 c17
        refine g_il zp45 rfl rfl rfl ?_
        refine g_ic zp45 rfl rfl ?_
        refine g_callI (as := [zI l2, zI 61]) (rest := []) zp45 rfl rfl (Nat.succ_pos _) rfl rfl (Nat.le_of_ble_eq_true rfl) (Nat.le_of_ble_eq_true rfl) rfl rfl h (fun x26 H25 h => ?_)
        refine g_if zp45 rfl rfl zc1 (fun c27 => ?_) (fun c27 => ?_)
        · replace h := h.1 c27
          refine g_il zp45 rfl rfl rfl ?_
          refine g_ic zp45 rfl rfl ?_
          refine g_icmp zp45 rfl rfl zc5 (fun c28 => ?_) (fun c28 => ?_)
          · replace h := h.1 c28
            exact g_ret zp45 rfl rfl ⟨rfl, h⟩
          · replace h := h.2 c28
            refine g_al zp45 rfl rfl rfl (by decide) ?_
            refine g_il zp45 rfl rfl rfl ?_
            refine g_ic zp45 rfl rfl ?_
            refine g_callV (as := [zR 36, zI l2, zI 1]) (rest := []) zp45 rfl rfl (Nat.succ_pos _) rfl rfl (Nat.le_of_ble_eq_true rfl) (Nat.le_of_ble_eq_true rfl) rfl rfl h (fun H29 h => ?_)
            exact g_ret zp45 rfl rfl ⟨rfl, h⟩
        · replace h := h.2 c27
          refine g_al zp45 rfl rfl rfl (by decide) ?_
          refine g_il zp45 rfl rfl rfl ?_
          refine g_il zp45 rfl rfl rfl ?_
          refine g_callI (as := [zI l2]) (rest := [zI l2, zR 36]) zp45 rfl rfl (Nat.succ_pos _) rfl rfl (Nat.le_of_ble_eq_true rfl) (Nat.le_of_ble_eq_true rfl) rfl rfl h (fun x32 H31 h => ?_)
          refine g_callI (as := [zR 36, zI l2, zI x32]) (rest := []) zp45 rfl rfl (Nat.succ_pos _) rfl rfl (Nat.le_of_ble_eq_true rfl) (Nat.le_of_ble_eq_true rfl) rfl rfl h (fun x34 H33 h => ?_)
          refine g_is (ls' := [zR 36, zJ, zI x34, zJ]) zp45 rfl rfl (Nat.le_of_ble_eq_true rfl) rfl ?_
          refine g_il zp45 rfl rfl rfl ?_
          refine g_ic zp45 rfl rfl ?_
          refine g_icmp zp45 rfl rfl zc5 (fun c35 => ?_) (fun c35 => ?_)
          · replace h := h.1 c35
            exact g_ret zp45 rfl rfl ⟨rfl, h⟩
          · replace h := h.2 c35
            refine g_al zp45 rfl rfl rfl (by decide) ?_
            refine g_il zp45 rfl rfl rfl ?_
            refine g_ic zp45 rfl rfl ?_
            refine g_callV (as := [zR 36, zI x34, zI 1]) (rest := []) zp45 rfl rfl (Nat.succ_pos _) rfl rfl (Nat.le_of_ble_eq_true rfl) (Nat.le_of_ble_eq_true rfl) rfl rfl h (fun H36 h => ?_)
            exact g_ret zp45 rfl rfl ⟨rfl, h⟩
theorem zp46 : zprog.getD 46 [] = zk46 := rfl
theorem x46_0 {w : zWt} {d : Nat} {H : zHt} {K : Int → zHt → Prop} {l1 : Int} {l2 : Int}
    (h : zgo w (d + 1) 46 8 [zR 36, zJ, zI l2, zI l1, zI 0, zI 0] [] H (zQI K)) :
    zclI w (d + 1) 46 [zR 36, zI l1, zI l2] H K := by
  show zgo w (d + 1) 46 0 [zR 36, zI l1, zI l2, zJ, zJ, zJ] [] H (zQI K)
  refine g_il zp46 rfl rfl rfl ?_
  refine g_is (ls' := [zR 36, zI l1, zI l2, zI l1, zJ, zJ]) zp46 rfl rfl (Nat.le_of_ble_eq_true rfl) rfl ?_
  refine g_ic zp46 rfl rfl ?_
  refine g_is (ls' := [zR 36, zI l1, zI l2, zI l1, zI 0, zJ]) zp46 rfl rfl (Nat.le_of_ble_eq_true rfl) rfl ?_
  refine g_ic zp46 rfl rfl ?_
  refine g_is (ls' := [zR 36, zI l1, zI l2, zI l1, zI 0, zI 0]) zp46 rfl rfl (Nat.le_of_ble_eq_true rfl) rfl ?_
  exact g_weak (ls' := [zR 36, zJ, zI l2, zI l1, zI 0, zI 0]) ⟨Or.inr rfl, Or.inl rfl, Or.inr rfl, Or.inr rfl, Or.inr rfl, Or.inr rfl, trivial⟩ h
theorem x46_8 {w : zWt} {d : Nat} {H : zHt} {K : Int → zHt → Prop} {l2 : Int} {l3 : Int} {l4 : Int} {l5 : Int}
    (h : (32 ≤ l5 → (l4 ≤ 0 → K l3 H) ∧ (0 < l4 → zclV w d 47 [zR 36, zI l2, zI l4] H (fun H3 => K l3 H3))) ∧ (l5 < 32 → (l2 ≤ 1 → (l4 ≤ 0 → K l3 H) ∧ (0 < l4 → zclV w d 47 [zR 36, zI l2, zI l4] H (fun H7 => K l3 H7))) ∧ (1 < l2 → (l2 ≠ 0) ∧ (¬ (Int.tmod l3 l2) = 0 → (l4 ≤ 0 → K l3 H) ∧ (0 < l4 → zclV w d 47 [zR 36, zI l2, zI l4] H (fun H12 => K l3 H12))) ∧ ((Int.tmod l3 l2) = 0 → zgo w (d + 1) 46 8 [zR 36, zJ, zI l2, zI (w32 (Int.tdiv l3 l2)), zI (w32 (l4 + 1)), zI (w32 (l5 + 1))] [] H (zQI K))))) :
    zgo w (d + 1) 46 8 [zR 36, zJ, zI l2, zI l3, zI l4, zI l5] [] H (zQI K) := by
  refine g_il zp46 rfl rfl rfl ?_
  refine g_ic zp46 rfl rfl ?_
  refine g_icmp zp46 rfl rfl zc3 (fun c1 => ?_) (fun c1 => ?_)
  · replace h := h.1 c1
    refine g_il zp46 rfl rfl rfl ?_
    refine g_if zp46 rfl rfl zc5 (fun c2 => ?_) (fun c2 => ?_)
    · replace h := h.1 c2
      refine g_il zp46 rfl rfl rfl ?_
      exact g_ret zp46 rfl rfl ⟨_, rfl, h⟩
    · replace h := h.2 c2
      refine g_al zp46 rfl rfl rfl (by decide) ?_
      refine g_il zp46 rfl rfl rfl ?_
      refine g_il zp46 rfl rfl rfl ?_
      refine g_callV (as := [zR 36, zI l2, zI l4]) (rest := []) zp46 rfl rfl (Nat.succ_pos _) rfl rfl (Nat.le_of_ble_eq_true rfl) (Nat.le_of_ble_eq_true rfl) rfl rfl h (fun H3 h => ?_)
      refine g_il zp46 rfl rfl rfl ?_
      exact g_ret zp46 rfl rfl ⟨_, rfl, h⟩
  · replace h := h.2 c1
    refine g_il zp46 rfl rfl rfl ?_
    refine g_ic zp46 rfl rfl ?_
    refine g_icmp zp46 rfl rfl zc5 (fun c5 => ?_) (fun c5 => ?_)
    · replace h := h.1 c5
      refine g_il zp46 rfl rfl rfl ?_
      refine g_if zp46 rfl rfl zc5 (fun c6 => ?_) (fun c6 => ?_)
      · replace h := h.1 c6
        refine g_il zp46 rfl rfl rfl ?_
        exact g_ret zp46 rfl rfl ⟨_, rfl, h⟩
      · replace h := h.2 c6
        refine g_al zp46 rfl rfl rfl (by decide) ?_
        refine g_il zp46 rfl rfl rfl ?_
        refine g_il zp46 rfl rfl rfl ?_
        refine g_callV (as := [zR 36, zI l2, zI l4]) (rest := []) zp46 rfl rfl (Nat.succ_pos _) rfl rfl (Nat.le_of_ble_eq_true rfl) (Nat.le_of_ble_eq_true rfl) rfl rfl h (fun H7 h => ?_)
        refine g_il zp46 rfl rfl rfl ?_
        exact g_ret zp46 rfl rfl ⟨_, rfl, h⟩
    · replace h := h.2 c5
      refine g_il zp46 rfl rfl rfl ?_
      refine g_il zp46 rfl rfl rfl ?_
      obtain ⟨c9, h⟩ := h
      refine g_ar (r := Int.tmod l3 l2) zp46 rfl rfl (zr_rem c9) ?_
      refine g_if zp46 rfl rfl zc1 (fun c10 => ?_) (fun c10 => ?_)
      · replace h := h.1 c10
        refine g_il zp46 rfl rfl rfl ?_
        refine g_if zp46 rfl rfl zc5 (fun c11 => ?_) (fun c11 => ?_)
        · replace h := h.1 c11
          refine g_il zp46 rfl rfl rfl ?_
          exact g_ret zp46 rfl rfl ⟨_, rfl, h⟩
        · replace h := h.2 c11
          refine g_al zp46 rfl rfl rfl (by decide) ?_
          refine g_il zp46 rfl rfl rfl ?_
          refine g_il zp46 rfl rfl rfl ?_
          refine g_callV (as := [zR 36, zI l2, zI l4]) (rest := []) zp46 rfl rfl (Nat.succ_pos _) rfl rfl (Nat.le_of_ble_eq_true rfl) (Nat.le_of_ble_eq_true rfl) rfl rfl h (fun H12 h => ?_)
          refine g_il zp46 rfl rfl rfl ?_
          exact g_ret zp46 rfl rfl ⟨_, rfl, h⟩
      · replace h := h.2 c10
        refine g_il zp46 rfl rfl rfl ?_
        refine g_il zp46 rfl rfl rfl ?_
        refine g_ar (r := w32 (Int.tdiv l3 l2)) zp46 rfl rfl (zr_div c9) ?_
        refine g_is (ls' := [zR 36, zJ, zI l2, zI (w32 (Int.tdiv l3 l2)), zI l4, zI l5]) zp46 rfl rfl (Nat.le_of_ble_eq_true rfl) rfl ?_
        refine g_inc (ls' := [zR 36, zJ, zI l2, zI (w32 (Int.tdiv l3 l2)), zI (w32 (l4 + 1)), zI l5]) zp46 rfl rfl rfl rfl ?_
        refine g_inc (ls' := [zR 36, zJ, zI l2, zI (w32 (Int.tdiv l3 l2)), zI (w32 (l4 + 1)), zI (w32 (l5 + 1))]) zp46 rfl rfl rfl rfl ?_
        refine g_goto zp46 rfl ?_
        exact g_weak (ls' := [zR 36, zJ, zI l2, zI (w32 (Int.tdiv l3 l2)), zI (w32 (l4 + 1)), zI (w32 (l5 + 1))]) ⟨Or.inr rfl, Or.inr rfl, Or.inr rfl, Or.inr rfl, Or.inr rfl, Or.inr rfl, trivial⟩ h
theorem zp47 : zprog.getD 47 [] = zk47 := rfl
theorem x47_0 {w : zWt} {d : Nat} {H : zHt} {K : zHt → Prop} {l1 : Int} {l2 : Int}
    (h : (9 ≤ (H 36 3) → K H) ∧ ((H 36 3) < 9 → (0 ≤ (H 36 3) ∧ (H 36 3) < 9) ∧ K (zup (zup (zup H 37 (H 36 3) l1) 38 (H 36 3) l2) 36 3 (w32 ((H 36 3) + 1))))) :
    zclV w d 47 [zR 36, zI l1, zI l2] H K := by
  show zgo w d 47 0 [zR 36, zI l1, zI l2] [] H (zQV K)
  refine g_al zp47 rfl rfl rfl (by decide) ?_
  refine g_get (v := zI (H 36 3)) zp47 rfl rfl rfl ⟨rfl, by decide, (by decide)⟩ rfl ?_
  refine g_ic zp47 rfl rfl ?_
  refine g_icmp zp47 rfl rfl zc3 (fun c1 => ?_) (fun c1 => ?_)
  · replace h := h.1 c1
    exact g_ret zp47 rfl rfl ⟨rfl, h⟩
  · replace h := h.2 c1
    refine g_al zp47 rfl rfl rfl (by decide) ?_
    refine g_get (v := zR 37) zp47 rfl rfl rfl ⟨rfl, by decide, (by decide)⟩ rfl ?_
    refine g_al zp47 rfl rfl rfl (by decide) ?_
    refine g_get (v := zI (H 36 3)) zp47 rfl rfl rfl ⟨rfl, by decide, (by decide)⟩ rfl ?_
    refine g_il zp47 rfl rfl rfl ?_
    obtain ⟨c2, h⟩ := h
    refine g_iast zp47 rfl rfl rfl (by decide) rfl c2 ?_
    refine g_al zp47 rfl rfl rfl (by decide) ?_
    refine g_get (v := zR 38) zp47 rfl rfl rfl ⟨rfl, by decide, (by decide)⟩ rfl ?_
    refine g_al zp47 rfl rfl rfl (by decide) ?_
    refine g_get (v := zI (H 36 3)) zp47 rfl rfl rfl ⟨rfl, by decide, (by decide)⟩ rfl ?_
    refine g_il zp47 rfl rfl rfl ?_
    refine g_iast zp47 rfl rfl rfl (by decide) rfl c2 ?_
    refine g_al zp47 rfl rfl rfl (by decide) ?_
    refine g_dup zp47 rfl rfl rfl ?_
    refine g_get (v := zI (H 36 3)) zp47 rfl rfl rfl ⟨rfl, by decide, (by decide)⟩ rfl ?_
    refine g_ic zp47 rfl rfl ?_
    refine g_ar (r := w32 ((H 36 3) + 1)) zp47 rfl rfl rfl ?_
    refine g_putI zp47 rfl rfl rfl ⟨rfl, by decide, (by decide)⟩ rfl rfl ?_
    exact g_ret zp47 rfl rfl ⟨rfl, h⟩
theorem zp48 : zprog.getD 48 [] = zk48 := rfl
theorem x48_0 {w : zWt} {d : Nat} {H : zHt} {K : Int → zHt → Prop} {l0 : Int} {l1 : Int}
    (h : zgo w (d + 1) 48 6 [zI l0, zI l1, zI (w32 (l0 - 1)), zI 0, zJ, zJ, zJ] [] H (zQI K)) :
    zclI w (d + 1) 48 [zI l0, zI l1] H K := by
  show zgo w (d + 1) 48 0 [zI l0, zI l1, zJ, zJ, zJ, zJ, zJ] [] H (zQI K)
  refine g_il zp48 rfl rfl rfl ?_
  refine g_ic zp48 rfl rfl ?_
  refine g_ar (r := w32 (l0 - 1)) zp48 rfl rfl rfl ?_
  refine g_is (ls' := [zI l0, zI l1, zI (w32 (l0 - 1)), zJ, zJ, zJ, zJ]) zp48 rfl rfl (Nat.le_of_ble_eq_true rfl) rfl ?_
  refine g_ic zp48 rfl rfl ?_
  refine g_is (ls' := [zI l0, zI l1, zI (w32 (l0 - 1)), zI 0, zJ, zJ, zJ]) zp48 rfl rfl (Nat.le_of_ble_eq_true rfl) rfl ?_
  exact g_weak (ls' := [zI l0, zI l1, zI (w32 (l0 - 1)), zI 0, zJ, zJ, zJ]) ⟨Or.inr rfl, Or.inr rfl, Or.inr rfl, Or.inr rfl, Or.inr rfl, Or.inr rfl, Or.inr rfl, trivial⟩ h
theorem x48_6 {w : zWt} {d : Nat} {H : zHt} {K : Int → zHt → Prop} {l0 : Int} {l1 : Int} {l2 : Int} {l3 : Int}
    (h : (l2 ≤ 1 → zclL w d 49 [zI l1, zI l2, zI l0] H (fun x3 H2 => (x3 = 1 → K 1 H2) ∧ (¬ x3 = 1 → (¬ x3 = (w32 (l0 - 1)) → zgo w (d + 1) 48 57 [zI l0, zJ, zJ, zI l3, zL x3, zJ, zI 1] [] H2 (zQI K)) ∧ (x3 = (w32 (l0 - 1)) → K 1 H2)))) ∧ (1 < l2 → (¬ (Int.tmod l2 2) = 0 → zclL w d 49 [zI l1, zI l2, zI l0] H (fun x8 H7 => (x8 = 1 → K 1 H7) ∧ (¬ x8 = 1 → (¬ x8 = (w32 (l0 - 1)) → zgo w (d + 1) 48 57 [zI l0, zJ, zJ, zI l3, zL x8, zJ, zI 1] [] H7 (zQI K)) ∧ (x8 = (w32 (l0 - 1)) → K 1 H7)))) ∧ ((Int.tmod l2 2) = 0 → zgo w (d + 1) 48 6 [zI l0, zI l1, zI (w32 (Int.tdiv l2 2)), zI (w32 (l3 + 1)), zJ, zJ, zJ] [] H (zQI K)))) :
    zgo w (d + 1) 48 6 [zI l0, zI l1, zI l2, zI l3, zJ, zJ, zJ] [] H (zQI K) := by
  refine g_il zp48 rfl rfl rfl ?_
  refine g_ic zp48 rfl rfl ?_
  refine g_icmp zp48 rfl rfl zc5 (fun c1 => ?_) (fun c1 => ?_)
  · replace h := h.1 c1
    refine g_il zp48 rfl rfl rfl ?_
    refine g_il zp48 rfl rfl rfl ?_
    refine g_il zp48 rfl rfl rfl ?_
    refine g_callL (as := [zI l1, zI l2, zI l0]) (rest := []) zp48 rfl rfl (Nat.succ_pos _) rfl rfl (Nat.le_of_ble_eq_true rfl) (Nat.le_of_ble_eq_true rfl) rfl rfl h (fun x3 H2 h => ?_)
    refine g_ls (ls' := [zI l0, zI l1, zI l2, zI l3, zL x3, zJ, zJ]) zp48 rfl rfl (Nat.le_of_ble_eq_true rfl) rfl ?_
    refine g_ll zp48 rfl rfl rfl ?_
    refine g_lc zp48 rfl rfl ?_
    refine g_lcmp zp48 rfl rfl rfl rfl zc0 (fun c4 => ?_) (fun c4 => ?_)
    · replace h := h.1 c4
      refine g_ic zp48 rfl rfl ?_
      exact g_ret zp48 rfl (zret_b (by decide)) ⟨_, rfl, h⟩
    · replace h := h.2 c4
      refine g_ll zp48 rfl rfl rfl ?_
      refine g_il zp48 rfl rfl rfl ?_
      refine g_ic zp48 rfl rfl ?_
      refine g_ar (r := w32 (l0 - 1)) zp48 rfl rfl rfl ?_
      refine g_i2l zp48 rfl rfl ?_
      refine g_lcmp zp48 rfl rfl rfl rfl zc1 (fun c5 => ?_) (fun c5 => ?_)
      · replace h := h.1 c5
        refine g_ic zp48 rfl rfl ?_
        refine g_is (ls' := [zI l0, zI l1, zI l2, zI l3, zL x3, zJ, zI 1]) zp48 rfl rfl (Nat.le_of_ble_eq_true rfl) rfl ?_
        exact g_weak (ls' := [zI l0, zJ, zJ, zI l3, zL x3, zJ, zI 1]) ⟨Or.inr rfl, Or.inl rfl, Or.inl rfl, Or.inr rfl, Or.inr rfl, Or.inr rfl, Or.inr rfl, trivial⟩ h
      · replace h := h.2 c5
        refine g_ic zp48 rfl rfl ?_
        exact g_ret zp48 rfl (zret_b (by decide)) ⟨_, rfl, h⟩
  · replace h := h.2 c1
    refine g_il zp48 rfl rfl rfl ?_
    refine g_ic zp48 rfl rfl ?_
    refine g_ar (r := Int.tmod l2 2) zp48 rfl rfl (zr_rem (by decide)) ?_
    refine g_if zp48 rfl rfl zc1 (fun c6 => ?_) (fun c6 => ?_)
    · replace h := h.1 c6
      refine g_il zp48 rfl rfl rfl ?_
      refine g_il zp48 rfl rfl rfl ?_
      refine g_il zp48 rfl rfl rfl ?_
      refine g_callL (as := [zI l1, zI l2, zI l0]) (rest := []) zp48 rfl rfl (Nat.succ_pos _) rfl rfl (Nat.le_of_ble_eq_true rfl) (Nat.le_of_ble_eq_true rfl) rfl rfl h (fun x8 H7 h => ?_)
      refine g_ls (ls' := [zI l0, zI l1, zI l2, zI l3, zL x8, zJ, zJ]) zp48 rfl rfl (Nat.le_of_ble_eq_true rfl) rfl ?_
      refine g_ll zp48 rfl rfl rfl ?_
      refine g_lc zp48 rfl rfl ?_
      refine g_lcmp zp48 rfl rfl rfl rfl zc0 (fun c9 => ?_) (fun c9 => ?_)
      · replace h := h.1 c9
        refine g_ic zp48 rfl rfl ?_
        exact g_ret zp48 rfl (zret_b (by decide)) ⟨_, rfl, h⟩
      · replace h := h.2 c9
        refine g_ll zp48 rfl rfl rfl ?_
        refine g_il zp48 rfl rfl rfl ?_
        refine g_ic zp48 rfl rfl ?_
        refine g_ar (r := w32 (l0 - 1)) zp48 rfl rfl rfl ?_
        refine g_i2l zp48 rfl rfl ?_
        refine g_lcmp zp48 rfl rfl rfl rfl zc1 (fun c10 => ?_) (fun c10 => ?_)
        · replace h := h.1 c10
          refine g_ic zp48 rfl rfl ?_
          refine g_is (ls' := [zI l0, zI l1, zI l2, zI l3, zL x8, zJ, zI 1]) zp48 rfl rfl (Nat.le_of_ble_eq_true rfl) rfl ?_
          exact g_weak (ls' := [zI l0, zJ, zJ, zI l3, zL x8, zJ, zI 1]) ⟨Or.inr rfl, Or.inl rfl, Or.inl rfl, Or.inr rfl, Or.inr rfl, Or.inr rfl, Or.inr rfl, trivial⟩ h
        · replace h := h.2 c10
          refine g_ic zp48 rfl rfl ?_
          exact g_ret zp48 rfl (zret_b (by decide)) ⟨_, rfl, h⟩
    · replace h := h.2 c6
      refine g_inc (ls' := [zI l0, zI l1, zI l2, zI (w32 (l3 + 1)), zJ, zJ, zJ]) zp48 rfl rfl rfl rfl ?_
      refine g_il zp48 rfl rfl rfl ?_
      refine g_ic zp48 rfl rfl ?_
      refine g_ar (r := w32 (Int.tdiv l2 2)) zp48 rfl rfl (zr_div (by decide)) ?_
      refine g_is (ls' := [zI l0, zI l1, zI (w32 (Int.tdiv l2 2)), zI (w32 (l3 + 1)), zJ, zJ, zJ]) zp48 rfl rfl (Nat.le_of_ble_eq_true rfl) rfl ?_
      refine g_goto zp48 rfl ?_
      exact g_weak (ls' := [zI l0, zI l1, zI (w32 (Int.tdiv l2 2)), zI (w32 (l3 + 1)), zJ, zJ, zJ]) ⟨Or.inr rfl, Or.inr rfl, Or.inr rfl, Or.inr rfl, Or.inr rfl, Or.inr rfl, Or.inr rfl, trivial⟩ h
theorem x48_57 {w : zWt} {d : Nat} {H : zHt} {K : Int → zHt → Prop} {l0 : Int} {l3 : Int} {l4 : Int} {l6 : Int}
    (h : (l3 ≤ l6 → K 0 H) ∧ (l6 < l3 → (l0 ≤ 0 → K 0 H) ∧ (0 < l0 → (l0 ≠ 0) ∧ (¬ (Int.tmod (w64 (l4 * l4)) l0) = (w32 (l0 - 1)) → zgo w (d + 1) 48 57 [zI l0, zJ, zJ, zI l3, zL (Int.tmod (w64 (l4 * l4)) l0), zJ, zI (w32 (l6 + 1))] [] H (zQI K)) ∧ ((Int.tmod (w64 (l4 * l4)) l0) = (w32 (l0 - 1)) → K 1 H)))) :
    zgo w (d + 1) 48 57 [zI l0, zJ, zJ, zI l3, zL l4, zJ, zI l6] [] H (zQI K) := by
  refine g_il zp48 rfl rfl rfl ?_
  refine g_il zp48 rfl rfl rfl ?_
  refine g_icmp zp48 rfl rfl zc3 (fun c1 => ?_) (fun c1 => ?_)
  · replace h := h.1 c1
    refine g_ic zp48 rfl rfl ?_
    exact g_ret zp48 rfl (zret_b (by decide)) ⟨_, rfl, h⟩
  · replace h := h.2 c1
    refine g_il zp48 rfl rfl rfl ?_
    refine g_if zp48 rfl rfl zc5 (fun c2 => ?_) (fun c2 => ?_)
    · replace h := h.1 c2
      refine g_ic zp48 rfl rfl ?_
      exact g_ret zp48 rfl (zret_b (by decide)) ⟨_, rfl, h⟩
    · replace h := h.2 c2
      refine g_ll zp48 rfl rfl rfl ?_
      refine g_ll zp48 rfl rfl rfl ?_
      refine g_lar (r := w64 (l4 * l4)) zp48 rfl rfl rfl ?_
      refine g_il zp48 rfl rfl rfl ?_
      refine g_i2l zp48 rfl rfl ?_
      obtain ⟨c3, h⟩ := h
      refine g_lar (r := Int.tmod (w64 (l4 * l4)) l0) zp48 rfl rfl (zr_lrem c3) ?_
      refine g_ls (ls' := [zI l0, zJ, zJ, zI l3, zL (Int.tmod (w64 (l4 * l4)) l0), zJ, zI l6]) zp48 rfl rfl (Nat.le_of_ble_eq_true rfl) rfl ?_
      refine g_ll zp48 rfl rfl rfl ?_
      refine g_il zp48 rfl rfl rfl ?_
      refine g_ic zp48 rfl rfl ?_
      refine g_ar (r := w32 (l0 - 1)) zp48 rfl rfl rfl ?_
      refine g_i2l zp48 rfl rfl ?_
      refine g_lcmp zp48 rfl rfl rfl rfl zc1 (fun c4 => ?_) (fun c4 => ?_)
      · replace h := h.1 c4
        refine g_inc (ls' := [zI l0, zJ, zJ, zI l3, zL (Int.tmod (w64 (l4 * l4)) l0), zJ, zI (w32 (l6 + 1))]) zp48 rfl rfl rfl rfl ?_
        refine g_goto zp48 rfl ?_
        exact g_weak (ls' := [zI l0, zJ, zJ, zI l3, zL (Int.tmod (w64 (l4 * l4)) l0), zJ, zI (w32 (l6 + 1))]) ⟨Or.inr rfl, Or.inr rfl, Or.inr rfl, Or.inr rfl, Or.inr rfl, Or.inr rfl, Or.inr rfl, trivial⟩ h
      · replace h := h.2 c4
        refine g_ic zp48 rfl rfl ?_
        exact g_ret zp48 rfl (zret_b (by decide)) ⟨_, rfl, h⟩
