/-! segments: what suffices for a run from there on (by wip/whole/gen3.py) -/
theorem zp221 : zprog.getD 221 [] = zk221 := rfl
theorem x221_0 {w : zWt} {d : Nat} {H : zHt} {K : Int → zHt → Prop} {l1 : Int}
    (h : zclI w d 222 [zR 81, zI 1, zI l1] H (fun x2 H1 => zclI w d 174 [zR 81, zI x2] H1 (fun x4 H3 => (x4 = 0 → K (-1) H3) ∧ (¬ x4 = 0 → (0 ≤ l1 ∧ l1 < 10) ∧ K (H3 82 l1) H3)))) :
    zclI w (d + 1) 221 [zR 81, zI l1] H K := by
  show zgo w (d + 1) 221 0 [zR 81, zI l1] [] H (zQI K)
  refine g_al zp221 rfl rfl rfl (by decide) ?_
  refine g_al zp221 rfl rfl rfl (by decide) ?_
  refine g_ic zp221 rfl rfl ?_
  refine g_il zp221 rfl rfl rfl ?_
  refine g_callI (as := [zR 81, zI 1, zI l1]) (rest := [zR 81]) zp221 rfl rfl (Nat.succ_pos _) rfl rfl (Nat.le_of_ble_eq_true rfl) (Nat.le_of_ble_eq_true rfl) rfl rfl h (fun x2 H1 h => ?_)
  refine g_callI (as := [zR 81, zI x2]) (rest := []) zp221 rfl rfl (Nat.succ_pos _) rfl rfl (Nat.le_of_ble_eq_true rfl) (Nat.le_of_ble_eq_true rfl) rfl rfl h (fun x4 H3 h => ?_)
  refine g_if zp221 rfl rfl zc0 (fun c5 => ?_) (fun c5 => ?_)
  · replace h := h.1 c5
    refine g_ic zp221 rfl rfl ?_
    exact g_ret zp221 rfl rfl ⟨_, rfl, h⟩
  · replace h := h.2 c5
    refine g_al zp221 rfl rfl rfl (by decide) ?_
    refine g_get (v := zR 82) zp221 rfl rfl rfl ⟨rfl, by decide, (by decide)⟩ rfl ?_
    refine g_il zp221 rfl rfl rfl ?_
    obtain ⟨c6, h⟩ := h
    refine g_ald (v := zI (H3 82 l1)) zp221 rfl rfl rfl rfl c6 rfl ?_
    refine g_goto zp221 rfl ?_
    exact g_ret zp221 rfl rfl ⟨_, rfl, h⟩
theorem zp222 : zprog.getD 222 [] = zk222 := rfl
theorem x222_0 {w : zWt} {d : Nat} {H : zHt} {K : Int → zHt → Prop} {l1 : Int} {l2 : Int}
    (h : (¬ l1 = 0 → zclI w d 223 [zR 81, zI l2] H (fun x3 H2 => (x3 = 0 → K 2 H2) ∧ (¬ x3 = 0 → K 0 H2))) ∧ (l1 = 0 → K 1 H)) :
    zclI w (d + 1) 222 [zR 81, zI l1, zI l2] H K := by
  show zgo w (d + 1) 222 0 [zR 81, zI l1, zI l2] [] H (zQI K)
  refine g_il zp222 rfl rfl rfl ?_
  refine g_if zp222 rfl rfl zc1 (fun c1 => ?_) (fun c1 => ?_)
  · replace h := h.1 c1
    refine g_al zp222 rfl rfl rfl (by decide) ?_
    refine g_il zp222 rfl rfl rfl ?_
    refine g_callI (as := [zR 81, zI l2]) (rest := []) zp222 rfl rfl (Nat.succ_pos _) rfl rfl (Nat.le_of_ble_eq_true rfl) (Nat.le_of_ble_eq_true rfl) rfl rfl h (fun x3 H2 h => ?_)
    refine g_if zp222 rfl rfl zc0 (fun c4 => ?_) (fun c4 => ?_)
    · replace h := h.1 c4
      refine g_ic zp222 rfl rfl ?_
      exact g_ret zp222 rfl rfl ⟨_, rfl, h⟩
    · replace h := h.2 c4
      refine g_ic zp222 rfl rfl ?_
      refine g_goto zp222 rfl ?_
      exact g_ret zp222 rfl rfl ⟨_, rfl, h⟩
  · replace h := h.2 c1
    refine g_ic zp222 rfl rfl ?_
    refine g_goto zp222 rfl ?_
    exact g_ret zp222 rfl rfl ⟨_, rfl, h⟩
theorem zp223 : zprog.getD 223 [] = zk223 := rfl
theorem x223_0 {w : zWt} {d : Nat} {H : zHt} {K : Int → zHt → Prop} {l1 : Int}
    (h : zclI w d 173 [zL l1, zL 0, zL (w32 ((H 82 6) - 1))] H (fun x2 H1 => (x2 = 0 ∨ x2 = 1) ∧ K x2 H1)) :
    zclI w (d + 1) 223 [zR 81, zI l1] H K := by
  show zgo w (d + 1) 223 0 [zR 81, zI l1] [] H (zQI K)
  refine g_il zp223 rfl rfl rfl ?_
  refine g_i2l zp223 rfl rfl ?_
  refine g_lc zp223 rfl rfl ?_
  refine g_al zp223 rfl rfl rfl (by decide) ?_
  refine g_get (v := zR 82) zp223 rfl rfl rfl ⟨rfl, by decide, (by decide)⟩ rfl ?_
  refine g_ic zp223 rfl rfl ?_
  refine g_ald (v := zI (H 82 6)) zp223 rfl rfl rfl rfl (by decide) rfl ?_
  refine g_ic zp223 rfl rfl ?_
  refine g_ar (r := w32 ((H 82 6) - 1)) zp223 rfl rfl rfl ?_
  refine g_i2l zp223 rfl rfl ?_
  refine g_callI (as := [zL l1, zL 0, zL (w32 ((H 82 6) - 1))]) (rest := []) zp223 rfl rfl (Nat.succ_pos _) rfl rfl (Nat.le_of_ble_eq_true rfl) (Nat.le_of_ble_eq_true rfl) rfl rfl h (fun x2 H1 h => ?_)
  obtain ⟨c3, h⟩ := h
  exact g_ret zp223 rfl (zret_b c3) ⟨_, rfl, h⟩
theorem zp224 : zprog.getD 224 [] = zk224 := rfl
theorem x224_0 {w : zWt} {d : Nat} {H : zHt} {K : Int → zHt → Prop} {l1 : Int} {l2 : Int}
    (h : (l2 < (-1) → zclI w d 225 [zR 81, zI 0, zI l1] H (fun x3 H2 => (¬ x3 = 0 → (¬ l2 = (-1) → ((H2 81 21) ≤ l2 → zclI w d 178 [zR 81, zI 5] H2 (fun x8 H7 => K x8 H7)) ∧ (l2 < (H2 81 21) → (0 ≤ l2 ∧ l2 < 101) ∧ K (H2 94 l2) H2)) ∧ (l2 = (-1) → K (H2 81 21) H2)) ∧ (x3 = 0 → K (-1) H2))) ∧ ((-1) ≤ l2 → zclI w d 225 [zR 81, zI 1, zI l1] H (fun x11 H10 => (¬ x11 = 0 → (¬ l2 = (-1) → ((H10 81 21) ≤ l2 → zclI w d 178 [zR 81, zI 5] H10 (fun x16 H15 => K x16 H15)) ∧ (l2 < (H10 81 21) → (0 ≤ l2 ∧ l2 < 101) ∧ K (H10 94 l2) H10)) ∧ (l2 = (-1) → K (H10 81 21) H10)) ∧ (x11 = 0 → K (-1) H10)))) :
    zclI w (d + 1) 224 [zR 81, zI l1, zI l2] H K := by
  show zgo w (d + 1) 224 0 [zR 81, zI l1, zI l2] [] H (zQI K)
  refine g_al zp224 rfl rfl rfl (by decide) ?_
  refine g_il zp224 rfl rfl rfl ?_
  refine g_ic zp224 rfl rfl ?_
  refine g_icmp zp224 rfl rfl zc2 (fun c1 => ?_) (fun c1 => ?_)
  · replace h := h.1 c1
    refine g_ic zp224 rfl rfl ?_
    refine g_il zp224 rfl rfl rfl ?_
    refine g_callI (as := [zR 81, zI 0, zI l1]) (rest := []) zp224 rfl rfl (Nat.succ_pos _) rfl rfl (Nat.le_of_ble_eq_true rfl) (Nat.le_of_ble_eq_true rfl) rfl rfl h (fun x3 H2 h => ?_)
    refine g_if zp224 rfl rfl zc1 (fun c4 => ?_) (fun c4 => ?_)
    · replace h := h.1 c4
      refine g_il zp224 rfl rfl rfl ?_
      refine g_ic zp224 rfl rfl ?_
      refine g_icmp zp224 rfl rfl zc1 (fun c5 => ?_) (fun c5 => ?_)
      · replace h := h.1 c5
        refine g_il zp224 rfl rfl rfl ?_
        refine g_al zp224 rfl rfl rfl (by decide) ?_
        refine g_get (v := zI (H2 81 21)) zp224 rfl rfl rfl ⟨rfl, by decide, (by decide)⟩ rfl ?_
        refine g_icmp zp224 rfl rfl zc3 (fun c6 => ?_) (fun c6 => ?_)
        · replace h := h.1 c6
          refine g_al zp224 rfl rfl rfl (by decide) ?_
          refine g_ic zp224 rfl rfl ?_
          refine g_callI (as := [zR 81, zI 5]) (rest := []) zp224 rfl rfl (Nat.succ_pos _) rfl rfl (Nat.le_of_ble_eq_true rfl) (Nat.le_of_ble_eq_true rfl) rfl rfl h (fun x8 H7 h => ?_)
          exact g_ret zp224 rfl rfl ⟨_, rfl, h⟩
        · replace h := h.2 c6
          refine g_al zp224 rfl rfl rfl (by decide) ?_
          refine g_get (v := zR 94) zp224 rfl rfl rfl ⟨rfl, by decide, (by decide)⟩ rfl ?_
          refine g_il zp224 rfl rfl rfl ?_
          obtain ⟨c9, h⟩ := h
          refine g_ald (v := zI (H2 94 l2)) zp224 rfl rfl rfl rfl c9 rfl ?_
          refine g_goto zp224 rfl ?_
          exact g_ret zp224 rfl rfl ⟨_, rfl, h⟩
      · replace h := h.2 c5
        refine g_al zp224 rfl rfl rfl (by decide) ?_
        refine g_get (v := zI (H2 81 21)) zp224 rfl rfl rfl ⟨rfl, by decide, (by decide)⟩ rfl ?_
        refine g_goto zp224 rfl ?_
        exact g_ret zp224 rfl rfl ⟨_, rfl, h⟩
    · replace h := h.2 c4
      refine g_ic zp224 rfl rfl ?_
      exact g_ret zp224 rfl rfl ⟨_, rfl, h⟩
  · replace h := h.2 c1
    refine g_ic zp224 rfl rfl ?_
    refine g_goto zp224 rfl ?_
    refine g_il zp224 rfl rfl rfl ?_
    refine g_callI (as := [zR 81, zI 1, zI l1]) (rest := []) zp224 rfl rfl (Nat.succ_pos _) rfl rfl (Nat.le_of_ble_eq_true rfl) (Nat.le_of_ble_eq_true rfl) rfl rfl h (fun x11 H10 h => ?_)
    refine g_if zp224 rfl rfl zc1 (fun c12 => ?_) (fun c12 => ?_)
    · replace h := h.1 c12
      refine g_il zp224 rfl rfl rfl ?_
      refine g_ic zp224 rfl rfl ?_
      refine g_icmp zp224 rfl rfl zc1 (fun c13 => ?_) (fun c13 => ?_)
      · replace h := h.1 c13
        refine g_il zp224 rfl rfl rfl ?_
        refine g_al zp224 rfl rfl rfl (by decide) ?_
        refine g_get (v := zI (H10 81 21)) zp224 rfl rfl rfl ⟨rfl, by decide, (by decide)⟩ rfl ?_
        refine g_icmp zp224 rfl rfl zc3 (fun c14 => ?_) (fun c14 => ?_)
        · replace h := h.1 c14
          refine g_al zp224 rfl rfl rfl (by decide) ?_
          refine g_ic zp224 rfl rfl ?_
          refine g_callI (as := [zR 81, zI 5]) (rest := []) zp224 rfl rfl (Nat.succ_pos _) rfl rfl (Nat.le_of_ble_eq_true rfl) (Nat.le_of_ble_eq_true rfl) rfl rfl h (fun x16 H15 h => ?_)
          exact g_ret zp224 rfl rfl ⟨_, rfl, h⟩
        · replace h := h.2 c14
          refine g_al zp224 rfl rfl rfl (by decide) ?_
          refine g_get (v := zR 94) zp224 rfl rfl rfl ⟨rfl, by decide, (by decide)⟩ rfl ?_
          refine g_il zp224 rfl rfl rfl ?_
          obtain ⟨c17, h⟩ := h
          refine g_ald (v := zI (H10 94 l2)) zp224 rfl rfl rfl rfl c17 rfl ?_
          refine g_goto zp224 rfl ?_
          exact g_ret zp224 rfl rfl ⟨_, rfl, h⟩
      · replace h := h.2 c13
        refine g_al zp224 rfl rfl rfl (by decide) ?_
        refine g_get (v := zI (H10 81 21)) zp224 rfl rfl rfl ⟨rfl, by decide, (by decide)⟩ rfl ?_
        refine g_goto zp224 rfl ?_
        exact g_ret zp224 rfl rfl ⟨_, rfl, h⟩
    · replace h := h.2 c12
      refine g_ic zp224 rfl rfl ?_
      exact g_ret zp224 rfl rfl ⟨_, rfl, h⟩
theorem zp225 : zprog.getD 225 [] = zk225 := rfl
theorem x225_0 {w : zWt} {d : Nat} {H : zHt} {K : Int → zHt → Prop} {l1 : Int} {l2 : Int}
    (h : zclI w d 222 [zR 81, zI l1, zI l2] H (fun x2 H1 => zclI w d 174 [zR 81, zI x2] H1 (fun x4 H3 => (¬ x4 = 0 → (0 ≤ l2 ∧ l2 < 10) ∧ zclV w d 226 [zR 81, zI (H3 82 l2)] H3 (fun H7 => K 1 H7)) ∧ (x4 = 0 → K 0 H3)))) :
    zclI w (d + 1) 225 [zR 81, zI l1, zI l2] H K := by
  show zgo w (d + 1) 225 0 [zR 81, zI l1, zI l2] [] H (zQI K)
  refine g_al zp225 rfl rfl rfl (by decide) ?_
  refine g_al zp225 rfl rfl rfl (by decide) ?_
  refine g_il zp225 rfl rfl rfl ?_
  refine g_il zp225 rfl rfl rfl ?_
  refine g_callI (as := [zR 81, zI l1, zI l2]) (rest := [zR 81]) zp225 rfl rfl (Nat.succ_pos _) rfl rfl (Nat.le_of_ble_eq_true rfl) (Nat.le_of_ble_eq_true rfl) rfl rfl h (fun x2 H1 h => ?_)
  refine g_callI (as := [zR 81, zI x2]) (rest := []) zp225 rfl rfl (Nat.succ_pos _) rfl rfl (Nat.le_of_ble_eq_true rfl) (Nat.le_of_ble_eq_true rfl) rfl rfl h (fun x4 H3 h => ?_)
  refine g_if zp225 rfl rfl zc1 (fun c5 => ?_) (fun c5 => ?_)
  · replace h := h.1 c5
    refine g_al zp225 rfl rfl rfl (by decide) ?_
    refine g_al zp225 rfl rfl rfl (by decide) ?_
    refine g_get (v := zR 82) zp225 rfl rfl rfl ⟨rfl, by decide, (by decide)⟩ rfl ?_
    refine g_il zp225 rfl rfl rfl ?_
    obtain ⟨c6, h⟩ := h
    refine g_ald (v := zI (H3 82 l2)) zp225 rfl rfl rfl rfl c6 rfl ?_
    refine g_callV (as := [zR 81, zI (H3 82 l2)]) (rest := []) zp225 rfl rfl (Nat.succ_pos _) rfl rfl (Nat.le_of_ble_eq_true rfl) (Nat.le_of_ble_eq_true rfl) rfl rfl h (fun H7 h => ?_)
    refine g_ic zp225 rfl rfl ?_
    exact g_ret zp225 rfl (zret_b (by decide)) ⟨_, rfl, h⟩
  · replace h := h.2 c5
    refine g_ic zp225 rfl rfl ?_
    exact g_ret zp225 rfl (zret_b (by decide)) ⟨_, rfl, h⟩
theorem zp226 : zprog.getD 226 [] = zk226 := rfl
theorem x226_0 {w : zWt} {d : Nat} {H : zHt} {K : zHt → Prop} {l1 : Int}
    (h : zclV w d 227 [zR 81, zI l1, zI (H 82 9)] H (fun H1 => K H1)) :
    zclV w (d + 1) 226 [zR 81, zI l1] H K := by
  show zgo w (d + 1) 226 0 [zR 81, zI l1] [] H (zQV K)
  refine g_al zp226 rfl rfl rfl (by decide) ?_
  refine g_il zp226 rfl rfl rfl ?_
  refine g_al zp226 rfl rfl rfl (by decide) ?_
  refine g_get (v := zR 82) zp226 rfl rfl rfl ⟨rfl, by decide, (by decide)⟩ rfl ?_
  refine g_ic zp226 rfl rfl ?_
  refine g_ald (v := zI (H 82 9)) zp226 rfl rfl rfl rfl (by decide) rfl ?_
  refine g_callV (as := [zR 81, zI l1, zI (H 82 9)]) (rest := []) zp226 rfl rfl (Nat.succ_pos _) rfl rfl (Nat.le_of_ble_eq_true rfl) (Nat.le_of_ble_eq_true rfl) rfl rfl h (fun H1 h => ?_)
  exact g_ret zp226 rfl rfl ⟨rfl, h⟩
theorem zp227 : zprog.getD 227 [] = zk227 := rfl
theorem x227_0 {w : zWt} {d : Nat} {H : zHt} {K : zHt → Prop} {l1 : Int} {l2 : Int}
    (h : zgo w (d + 1) 227 27 [zR 81, zJ, zJ, zJ, zJ, zJ] [] (zup (zup (zup (zup (zup H 81 25 l2) 94 0 l1) 81 21 1) 81 22 (-1)) 81 23 (-1)) (zQV K)) :
    zclV w (d + 1) 227 [zR 81, zI l1, zI l2] H K := by
  show zgo w (d + 1) 227 0 [zR 81, zI l1, zI l2, zJ, zJ, zJ] [] H (zQV K)
  refine g_al zp227 rfl rfl rfl (by decide) ?_
  refine g_il zp227 rfl rfl rfl ?_
  refine g_putI zp227 rfl rfl rfl ⟨rfl, by decide, (by decide)⟩ rfl rfl ?_
  refine g_al zp227 rfl rfl rfl (by decide) ?_
  refine g_get (v := zR 94) zp227 rfl rfl rfl ⟨rfl, by decide, (by decide)⟩ rfl ?_
  refine g_ic zp227 rfl rfl ?_
  refine g_il zp227 rfl rfl rfl ?_
  refine g_iast zp227 rfl rfl rfl (by decide) rfl (by decide) ?_
  refine g_al zp227 rfl rfl rfl (by decide) ?_
  refine g_ic zp227 rfl rfl ?_
  refine g_putI zp227 rfl rfl rfl ⟨rfl, by decide, (by decide)⟩ rfl rfl ?_
  refine g_al zp227 rfl rfl rfl (by decide) ?_
  refine g_ic zp227 rfl rfl ?_
  refine g_putI zp227 rfl rfl rfl ⟨rfl, by decide, (by decide)⟩ rfl rfl ?_
  refine g_al zp227 rfl rfl rfl (by decide) ?_
  refine g_ic zp227 rfl rfl ?_
  refine g_putI zp227 rfl rfl rfl ⟨rfl, by decide, (by decide)⟩ rfl rfl ?_
  exact g_weak (ls' := [zR 81, zJ, zJ, zJ, zJ, zJ]) ⟨Or.inr rfl, Or.inl rfl, Or.inl rfl, Or.inr rfl, Or.inr rfl, Or.inr rfl, trivial⟩ h
theorem x227_27 {w : zWt} {d : Nat} {H : zHt} {K : zHt → Prop} 
    (h : (0 ≤ (H 81 22) → K H) ∧ ((H 81 22) < 0 → (0 ≤ (w32 ((H 81 21) - 1)) ∧ (w32 ((H 81 21) - 1)) < 101) ∧ zclL w d 181 [zR 81, zI (H 94 (w32 ((H 81 21) - 1))), zI (H 81 25)] H (fun x4 H3 => zclI w d 228 [zR 81, zL x4] H3 (fun x6 H5 => (x6 < 0 → (x4 ≤ (H5 82 7) → (0 ≤ (H5 81 21) ∧ (H5 81 21) < 101) ∧ (¬ x4 = 0 → ((w32 ((H5 81 21) + 1)) ≤ (H5 82 8) → zgo w (d + 1) 227 27 [zR 81, zJ, zJ, zJ, zJ, zJ] [] (zup (zup (zup H5 94 (H5 81 21) (w32 x4)) 81 21 (w32 ((H5 81 21) + 1))) 81 22 (-1)) (zQV K)) ∧ ((H5 82 8) < (w32 ((H5 81 21) + 1)) → zgo w (d + 1) 227 27 [zR 81, zJ, zJ, zJ, zJ, zJ] [] (zup (zup (zup H5 94 (H5 81 21) (w32 x4)) 81 21 (w32 ((H5 81 21) + 1))) 81 22 3) (zQV K))) ∧ (x4 = 0 → zgo w (d + 1) 227 27 [zR 81, zJ, zJ, zJ, zJ, zJ] [] (zup (zup (zup H5 94 (H5 81 21) (w32 x4)) 81 21 (w32 ((H5 81 21) + 1))) 81 22 0) (zQV K))) ∧ ((H5 82 7) < x4 → zgo w (d + 1) 227 27 [zR 81, zJ, zJ, zJ, zJ, zJ] [] (zup H5 81 22 2) (zQV K))) ∧ (0 ≤ x6 → zgo w (d + 1) 227 27 [zR 81, zJ, zJ, zJ, zJ, zJ] [] (zup (zup H5 81 22 1) 81 23 x6) (zQV K)))))) :
    zgo w (d + 1) 227 27 [zR 81, zJ, zJ, zJ, zJ, zJ] [] H (zQV K) := by
  refine g_al zp227 rfl rfl rfl (by decide) ?_
  refine g_get (v := zI (H 81 22)) zp227 rfl rfl rfl ⟨rfl, by decide, (by decide)⟩ rfl ?_
  refine g_if zp227 rfl rfl zc3 (fun c1 => ?_) (fun c1 => ?_)
  · replace h := h.1 c1
    exact g_ret zp227 rfl rfl ⟨rfl, h⟩
  · replace h := h.2 c1
    refine g_al zp227 rfl rfl rfl (by decide) ?_
    refine g_al zp227 rfl rfl rfl (by decide) ?_
    refine g_get (v := zR 94) zp227 rfl rfl rfl ⟨rfl, by decide, (by decide)⟩ rfl ?_
    refine g_al zp227 rfl rfl rfl (by decide) ?_
    refine g_get (v := zI (H 81 21)) zp227 rfl rfl rfl ⟨rfl, by decide, (by decide)⟩ rfl ?_
    refine g_ic zp227 rfl rfl ?_
    refine g_ar (r := w32 ((H 81 21) - 1)) zp227 rfl rfl rfl ?_
    obtain ⟨c2, h⟩ := h
    refine g_ald (v := zI (H 94 (w32 ((H 81 21) - 1)))) zp227 rfl rfl rfl rfl c2 rfl ?_
    refine g_al zp227 rfl rfl rfl (by decide) ?_
    refine g_get (v := zI (H 81 25)) zp227 rfl rfl rfl ⟨rfl, by decide, (by decide)⟩ rfl ?_
    refine g_callL (as := [zR 81, zI (H 94 (w32 ((H 81 21) - 1))), zI (H 81 25)]) (rest := []) zp227 rfl rfl (Nat.succ_pos _) rfl rfl (Nat.le_of_ble_eq_true rfl) (Nat.le_of_ble_eq_true rfl) rfl rfl h (fun x4 H3 h => ?_)
    refine g_ls (ls' := [zR 81, zJ, zJ, zL x4, zJ, zJ]) zp227 rfl rfl (Nat.le_of_ble_eq_true rfl) rfl ?_
    refine g_al zp227 rfl rfl rfl (by decide) ?_
    refine g_ll zp227 rfl rfl rfl ?_
    refine g_callI (as := [zR 81, zL x4]) (rest := []) zp227 rfl rfl (Nat.succ_pos _) rfl rfl (Nat.le_of_ble_eq_true rfl) (Nat.le_of_ble_eq_true rfl) rfl rfl h (fun x6 H5 h => ?_)
    refine g_is (ls' := [zR 81, zJ, zJ, zL x4, zJ, zI x6]) zp227 rfl rfl (Nat.le_of_ble_eq_true rfl) rfl ?_
    refine g_il zp227 rfl rfl rfl ?_
    refine g_if zp227 rfl rfl zc2 (fun c7 => ?_) (fun c7 => ?_)
    · replace h := h.1 c7
      refine g_ll zp227 rfl rfl rfl ?_
      refine g_al zp227 rfl rfl rfl (by decide) ?_
      refine g_get (v := zR 82) zp227 rfl rfl rfl ⟨rfl, by decide, (by decide)⟩ rfl ?_
      refine g_ic zp227 rfl rfl ?_
      refine g_ald (v := zI (H5 82 7)) zp227 rfl rfl rfl rfl (by decide) rfl ?_
      refine g_i2l zp227 rfl rfl ?_
      refine g_lcmp zp227 rfl rfl rfl rfl zc5 (fun c8 => ?_) (fun c8 => ?_)
      · replace h := h.1 c8
        refine g_al zp227 rfl rfl rfl (by decide) ?_
        refine g_get (v := zR 94) zp227 rfl rfl rfl ⟨rfl, by decide, (by decide)⟩ rfl ?_
        refine g_al zp227 rfl rfl rfl (by decide) ?_
        refine g_get (v := zI (H5 81 21)) zp227 rfl rfl rfl ⟨rfl, by decide, (by decide)⟩ rfl ?_
        refine g_ll zp227 rfl rfl rfl ?_
        refine g_l2i zp227 rfl rfl ?_
        obtain ⟨c9, h⟩ := h
        refine g_iast zp227 rfl rfl rfl (by decide) rfl c9 ?_
        refine g_al zp227 rfl rfl rfl (by decide) ?_
        refine g_dup zp227 rfl rfl rfl ?_
        refine g_get (v := zI (H5 81 21)) zp227 rfl rfl rfl ⟨rfl, by decide, (by decide)⟩ rfl ?_
        refine g_ic zp227 rfl rfl ?_
        refine g_ar (r := w32 ((H5 81 21) + 1)) zp227 rfl rfl rfl ?_
        refine g_putI zp227 rfl rfl rfl ⟨rfl, by decide, (by decide)⟩ rfl rfl ?_
        refine g_al zp227 rfl rfl rfl (by decide) ?_
        refine g_ll zp227 rfl rfl rfl ?_
        refine g_lc zp227 rfl rfl ?_
        refine g_lcmp zp227 rfl rfl rfl rfl zc1 (fun c10 => ?_) (fun c10 => ?_)
        · replace h := h.1 c10
          refine g_al zp227 rfl rfl rfl (by decide) ?_
          refine g_get (v := zI (w32 ((H5 81 21) + 1))) zp227 rfl rfl rfl ⟨rfl, by decide, (by decide)⟩ rfl ?_
          refine g_al zp227 rfl rfl rfl (by decide) ?_
          refine g_get (v := zR 82) zp227 rfl rfl rfl ⟨rfl, by decide, (by decide)⟩ rfl ?_
          refine g_ic zp227 rfl rfl ?_
          refine g_ald (v := zI (H5 82 8)) zp227 rfl rfl rfl rfl (by decide) rfl ?_
          refine g_icmp zp227 rfl rfl zc5 (fun c11 => ?_) (fun c11 => ?_)
          · replace h := h.1 c11
            refine g_ic zp227 rfl rfl ?_
            refine g_putI zp227 rfl rfl rfl ⟨rfl, by decide, (by decide)⟩ rfl rfl ?_
            refine g_goto zp227 rfl ?_
            exact g_weak (ls' := [zR 81, zJ, zJ, zJ, zJ, zJ]) ⟨Or.inr rfl, Or.inr rfl, Or.inr rfl, Or.inl rfl, Or.inr rfl, Or.inl rfl, trivial⟩ h
          · replace h := h.2 c11
            refine g_ic zp227 rfl rfl ?_
            refine g_goto zp227 rfl ?_
            refine g_putI zp227 rfl rfl rfl ⟨rfl, by decide, (by decide)⟩ rfl rfl ?_
            refine g_goto zp227 rfl ?_
            exact g_weak (ls' := [zR 81, zJ, zJ, zJ, zJ, zJ]) ⟨Or.inr rfl, Or.inr rfl, Or.inr rfl, Or.inl rfl, Or.inr rfl, Or.inl rfl, trivial⟩ h
        · replace h := h.2 c10
          refine g_ic zp227 rfl rfl ?_
          refine g_goto zp227 rfl ?_
          refine g_putI zp227 rfl rfl rfl ⟨rfl, by decide, (by decide)⟩ rfl rfl ?_
          refine g_goto zp227 rfl ?_
          exact g_weak (ls' := [zR 81, zJ, zJ, zJ, zJ, zJ]) ⟨Or.inr rfl, Or.inr rfl, Or.inr rfl, Or.inl rfl, Or.inr rfl, Or.inl rfl, trivial⟩ h
      · replace h := h.2 c8
        refine g_al zp227 rfl rfl rfl (by decide) ?_
        refine g_ic zp227 rfl rfl ?_
        refine g_putI zp227 rfl rfl rfl ⟨rfl, by decide, (by decide)⟩ rfl rfl ?_
        refine g_goto zp227 rfl ?_
        refine g_goto zp227 rfl ?_
        exact g_weak (ls' := [zR 81, zJ, zJ, zJ, zJ, zJ]) ⟨Or.inr rfl, Or.inr rfl, Or.inr rfl, Or.inl rfl, Or.inr rfl, Or.inl rfl, trivial⟩ h
    · replace h := h.2 c7
      refine g_al zp227 rfl rfl rfl (by decide) ?_
      refine g_ic zp227 rfl rfl ?_
      refine g_putI zp227 rfl rfl rfl ⟨rfl, by decide, (by decide)⟩ rfl rfl ?_
      refine g_al zp227 rfl rfl rfl (by decide) ?_
      refine g_il zp227 rfl rfl rfl ?_
      refine g_putI zp227 rfl rfl rfl ⟨rfl, by decide, (by decide)⟩ rfl rfl ?_
      refine g_goto zp227 rfl ?_
      refine g_goto zp227 rfl ?_
      exact g_weak (ls' := [zR 81, zJ, zJ, zJ, zJ, zJ]) ⟨Or.inr rfl, Or.inr rfl, Or.inr rfl, Or.inl rfl, Or.inr rfl, Or.inl rfl, trivial⟩ h
theorem zp228 : zprog.getD 228 [] = zk228 := rfl
theorem x228_0 {w : zWt} {d : Nat} {H : zHt} {K : Int → zHt → Prop} {l1 : Int}
    (h : zgo w d 228 2 [zR 81, zL l1, zJ, zI 0] [] H (zQI K)) :
    zclI w d 228 [zR 81, zL l1] H K := by
  show zgo w d 228 0 [zR 81, zL l1, zJ, zJ] [] H (zQI K)
  refine g_ic zp228 rfl rfl ?_
  refine g_is (ls' := [zR 81, zL l1, zJ, zI 0]) zp228 rfl rfl (Nat.le_of_ble_eq_true rfl) rfl ?_
  exact g_weak (ls' := [zR 81, zL l1, zJ, zI 0]) ⟨Or.inr rfl, Or.inr rfl, Or.inr rfl, Or.inr rfl, trivial⟩ h
theorem x228_2 {w : zWt} {d : Nat} {H : zHt} {K : Int → zHt → Prop} {l1 : Int} {l3 : Int}
    (h : ((H 81 21) ≤ l3 → K (-1) H) ∧ (l3 < (H 81 21) → (0 ≤ l3 ∧ l3 < 101) ∧ (¬ (H 94 l3) = l1 → zgo w d 228 2 [zR 81, zL l1, zJ, zI (w32 (l3 + 1))] [] H (zQI K)) ∧ ((H 94 l3) = l1 → K l3 H))) :
    zgo w d 228 2 [zR 81, zL l1, zJ, zI l3] [] H (zQI K) := by
  refine g_il zp228 rfl rfl rfl ?_
  refine g_al zp228 rfl rfl rfl (by decide) ?_
  refine g_get (v := zI (H 81 21)) zp228 rfl rfl rfl ⟨rfl, by decide, (by decide)⟩ rfl ?_
  refine g_icmp zp228 rfl rfl zc3 (fun c1 => ?_) (fun c1 => ?_)
  · replace h := h.1 c1
    refine g_ic zp228 rfl rfl ?_
    exact g_ret zp228 rfl rfl ⟨_, rfl, h⟩
  · replace h := h.2 c1
    refine g_al zp228 rfl rfl rfl (by decide) ?_
    refine g_get (v := zR 94) zp228 rfl rfl rfl ⟨rfl, by decide, (by decide)⟩ rfl ?_
    refine g_il zp228 rfl rfl rfl ?_
    obtain ⟨c2, h⟩ := h
    refine g_ald (v := zI (H 94 l3)) zp228 rfl rfl rfl rfl c2 rfl ?_
    refine g_i2l zp228 rfl rfl ?_
    refine g_ll zp228 rfl rfl rfl ?_
    refine g_lcmp zp228 rfl rfl rfl rfl zc1 (fun c3 => ?_) (fun c3 => ?_)
    · replace h := h.1 c3
      refine g_inc (ls' := [zR 81, zL l1, zJ, zI (w32 (l3 + 1))]) zp228 rfl rfl rfl rfl ?_
      refine g_goto zp228 rfl ?_
      exact g_weak (ls' := [zR 81, zL l1, zJ, zI (w32 (l3 + 1))]) ⟨Or.inr rfl, Or.inr rfl, Or.inr rfl, Or.inr rfl, trivial⟩ h
    · replace h := h.2 c3
      refine g_il zp228 rfl rfl rfl ?_
      exact g_ret zp228 rfl rfl ⟨_, rfl, h⟩
theorem zp229 : zprog.getD 229 [] = zk229 := rfl
theorem x229_0 {w : zWt} {d : Nat} {H : zHt} {K : Int → zHt → Prop} {l1 : Int}
    (h : zclI w d 225 [zR 81, zI 1, zI l1] H (fun x2 H1 => (x2 = 0 → K (-1) H1) ∧ (¬ x2 = 0 → K (H1 81 22) H1))) :
    zclI w (d + 1) 229 [zR 81, zI l1] H K := by
  show zgo w (d + 1) 229 0 [zR 81, zI l1] [] H (zQI K)
  refine g_al zp229 rfl rfl rfl (by decide) ?_
  refine g_ic zp229 rfl rfl ?_
  refine g_il zp229 rfl rfl rfl ?_
  refine g_callI (as := [zR 81, zI 1, zI l1]) (rest := []) zp229 rfl rfl (Nat.succ_pos _) rfl rfl (Nat.le_of_ble_eq_true rfl) (Nat.le_of_ble_eq_true rfl) rfl rfl h (fun x2 H1 h => ?_)
  refine g_if zp229 rfl rfl zc0 (fun c3 => ?_) (fun c3 => ?_)
  · replace h := h.1 c3
    refine g_ic zp229 rfl rfl ?_
    exact g_ret zp229 rfl rfl ⟨_, rfl, h⟩
  · replace h := h.2 c3
    refine g_al zp229 rfl rfl rfl (by decide) ?_
    refine g_get (v := zI (H1 81 22)) zp229 rfl rfl rfl ⟨rfl, by decide, (by decide)⟩ rfl ?_
    refine g_goto zp229 rfl ?_
    exact g_ret zp229 rfl rfl ⟨_, rfl, h⟩
theorem zp230 : zprog.getD 230 [] = zk230 := rfl
theorem x230_0 {w : zWt} {d : Nat} {H : zHt} {K : Int → zHt → Prop} {l1 : Int} {l2 : Int}
    (h : zclI w d 173 [zL l2, zL 0, zL 2] H (fun x2 H1 => zclI w d 225 [zR 81, zI x2, zI l1] H1 (fun x4 H3 => (¬ x4 = 0 → ((H3 81 22) = 1 → (¬ l2 = 0 → (¬ l2 = 1 → zclI w d 231 [zR 81] H3 (fun x10 H9 => K x10 H9)) ∧ (l2 = 1 → K (w32 ((H3 81 21) - (H3 81 23))) H3)) ∧ (l2 = 0 → K (H3 81 23) H3)) ∧ (¬ (H3 81 22) = 1 → zclI w d 178 [zR 81, zI 5] H3 (fun x12 H11 => K x12 H11))) ∧ (x4 = 0 → K (-1) H3)))) :
    zclI w (d + 1) 230 [zR 81, zI l1, zI l2] H K := by
  show zgo w (d + 1) 230 0 [zR 81, zI l1, zI l2] [] H (zQI K)
  refine g_al zp230 rfl rfl rfl (by decide) ?_
  refine g_il zp230 rfl rfl rfl ?_
  refine g_i2l zp230 rfl rfl ?_
  refine g_lc zp230 rfl rfl ?_
  refine g_lc zp230 rfl rfl ?_
  refine g_callI (as := [zL l2, zL 0, zL 2]) (rest := [zR 81]) zp230 rfl rfl (Nat.succ_pos _) rfl rfl (Nat.le_of_ble_eq_true rfl) (Nat.le_of_ble_eq_true rfl) rfl rfl h (fun x2 H1 h => ?_)
  refine g_il zp230 rfl rfl rfl ?_
  refine g_callI (as := [zR 81, zI x2, zI l1]) (rest := []) zp230 rfl rfl (Nat.succ_pos _) rfl rfl (Nat.le_of_ble_eq_true rfl) (Nat.le_of_ble_eq_true rfl) rfl rfl h (fun x4 H3 h => ?_)
  refine g_if zp230 rfl rfl zc1 (fun c5 => ?_) (fun c5 => ?_)
  · replace h := h.1 c5
    refine g_al zp230 rfl rfl rfl (by decide) ?_
    refine g_get (v := zI (H3 81 22)) zp230 rfl rfl rfl ⟨rfl, by decide, (by decide)⟩ rfl ?_
    refine g_ic zp230 rfl rfl ?_
    refine g_icmp zp230 rfl rfl zc0 (fun c6 => ?_) (fun c6 => ?_)
    · replace h := h.1 c6
      refine g_il zp230 rfl rfl rfl ?_
      refine g_if zp230 rfl rfl zc1 (fun c7 => ?_) (fun c7 => ?_)
      · replace h := h.1 c7
        refine g_il zp230 rfl rfl rfl ?_
        refine g_ic zp230 rfl rfl ?_
        refine g_icmp zp230 rfl rfl zc1 (fun c8 => ?_) (fun c8 => ?_)
        · replace h := h.1 c8
          refine g_al zp230 rfl rfl rfl (by decide) ?_
          refine g_callI (as := [zR 81]) (rest := []) zp230 rfl rfl (Nat.succ_pos _) rfl rfl (Nat.le_of_ble_eq_true rfl) (Nat.le_of_ble_eq_true rfl) rfl rfl h (fun x10 H9 h => ?_)
          exact g_ret zp230 rfl rfl ⟨_, rfl, h⟩
        · replace h := h.2 c8
          refine g_al zp230 rfl rfl rfl (by decide) ?_
          refine g_get (v := zI (H3 81 21)) zp230 rfl rfl rfl ⟨rfl, by decide, (by decide)⟩ rfl ?_
          refine g_al zp230 rfl rfl rfl (by decide) ?_
          refine g_get (v := zI (H3 81 23)) zp230 rfl rfl rfl ⟨rfl, by decide, (by decide)⟩ rfl ?_
          refine g_ar (r := w32 ((H3 81 21) - (H3 81 23))) zp230 rfl rfl rfl ?_
          refine g_goto zp230 rfl ?_
          exact g_ret zp230 rfl rfl ⟨_, rfl, h⟩
      · replace h := h.2 c7
        refine g_al zp230 rfl rfl rfl (by decide) ?_
        refine g_get (v := zI (H3 81 23)) zp230 rfl rfl rfl ⟨rfl, by decide, (by decide)⟩ rfl ?_
        refine g_goto zp230 rfl ?_
        exact g_ret zp230 rfl rfl ⟨_, rfl, h⟩
    · replace h := h.2 c6
      refine g_al zp230 rfl rfl rfl (by decide) ?_
      refine g_ic zp230 rfl rfl ?_
      refine g_callI (as := [zR 81, zI 5]) (rest := []) zp230 rfl rfl (Nat.succ_pos _) rfl rfl (Nat.le_of_ble_eq_true rfl) (Nat.le_of_ble_eq_true rfl) rfl rfl h (fun x12 H11 h => ?_)
      exact g_ret zp230 rfl rfl ⟨_, rfl, h⟩
  · replace h := h.2 c5
    refine g_ic zp230 rfl rfl ?_
    exact g_ret zp230 rfl rfl ⟨_, rfl, h⟩
theorem zp231 : zprog.getD 231 [] = zk231 := rfl
theorem x231_0 {w : zWt} {d : Nat} {H : zHt} {K : Int → zHt → Prop} 
    (h : (0 ≤ (H 81 23) ∧ (H 81 23) < 101) ∧ zgo w d 231 15 [zR 81, zI (H 94 (H 81 23)), zI (H 81 23)] [] H (zQI K)) :
    zclI w d 231 [zR 81] H K := by
  show zgo w d 231 0 [zR 81, zJ, zJ] [] H (zQI K)
  refine g_al zp231 rfl rfl rfl (by decide) ?_
  refine g_get (v := zR 94) zp231 rfl rfl rfl ⟨rfl, by decide, (by decide)⟩ rfl ?_
  refine g_al zp231 rfl rfl rfl (by decide) ?_
  refine g_get (v := zI (H 81 23)) zp231 rfl rfl rfl ⟨rfl, by decide, (by decide)⟩ rfl ?_
  obtain ⟨c1, h⟩ := h
  refine g_ald (v := zI (H 94 (H 81 23))) zp231 rfl rfl rfl rfl c1 rfl ?_
  refine g_is (ls' := [zR 81, zI (H 94 (H 81 23)), zJ]) zp231 rfl rfl (Nat.le_of_ble_eq_true rfl) rfl ?_
  refine g_al zp231 rfl rfl rfl (by decide) ?_
  refine g_get (v := zI (H 81 23)) zp231 rfl rfl rfl ⟨rfl, by decide, (by decide)⟩ rfl ?_
  refine g_is (ls' := [zR 81, zI (H 94 (H 81 23)), zI (H 81 23)]) zp231 rfl rfl (Nat.le_of_ble_eq_true rfl) rfl ?_
  exact g_weak (ls' := [zR 81, zI (H 94 (H 81 23)), zI (H 81 23)]) ⟨Or.inr rfl, Or.inr rfl, Or.inr rfl, trivial⟩ h
theorem x231_15 {w : zWt} {d : Nat} {H : zHt} {K : Int → zHt → Prop} {l1 : Int} {l2 : Int}
    (h : ((H 81 21) ≤ l2 → K l1 H) ∧ (l2 < (H 81 21) → (0 ≤ l2 ∧ l2 < 101) ∧ (l1 ≤ (H 94 l2) → zgo w d 231 15 [zR 81, zI l1, zI (w32 (l2 + 1))] [] H (zQI K)) ∧ ((H 94 l2) < l1 → zgo w d 231 15 [zR 81, zI (H 94 l2), zI (w32 (l2 + 1))] [] H (zQI K)))) :
    zgo w d 231 15 [zR 81, zI l1, zI l2] [] H (zQI K) := by
  refine g_il zp231 rfl rfl rfl ?_
  refine g_al zp231 rfl rfl rfl (by decide) ?_
  refine g_get (v := zI (H 81 21)) zp231 rfl rfl rfl ⟨rfl, by decide, (by decide)⟩ rfl ?_
  refine g_icmp zp231 rfl rfl zc3 (fun c1 => ?_) (fun c1 => ?_)
  · replace h := h.1 c1
    refine g_il zp231 rfl rfl rfl ?_
    exact g_ret zp231 rfl rfl ⟨_, rfl, h⟩
  · replace h := h.2 c1
    refine g_al zp231 rfl rfl rfl (by decide) ?_
    refine g_get (v := zR 94) zp231 rfl rfl rfl ⟨rfl, by decide, (by decide)⟩ rfl ?_
    refine g_il zp231 rfl rfl rfl ?_
    obtain ⟨c2, h⟩ := h
    refine g_ald (v := zI (H 94 l2)) zp231 rfl rfl rfl rfl c2 rfl ?_
    refine g_il zp231 rfl rfl rfl ?_
    refine g_icmp zp231 rfl rfl zc3 (fun c3 => ?_) (fun c3 => ?_)
    · replace h := h.1 c3
      refine g_il zp231 rfl rfl rfl ?_
      refine g_is (ls' := [zR 81, zI l1, zI l2]) zp231 rfl rfl (Nat.le_of_ble_eq_true rfl) rfl ?_
      refine g_inc (ls' := [zR 81, zI l1, zI (w32 (l2 + 1))]) zp231 rfl rfl rfl rfl ?_
      refine g_goto zp231 rfl ?_
      exact g_weak (ls' := [zR 81, zI l1, zI (w32 (l2 + 1))]) ⟨Or.inr rfl, Or.inr rfl, Or.inr rfl, trivial⟩ h
    · replace h := h.2 c3
      refine g_al zp231 rfl rfl rfl (by decide) ?_
      refine g_get (v := zR 94) zp231 rfl rfl rfl ⟨rfl, by decide, (by decide)⟩ rfl ?_
      refine g_il zp231 rfl rfl rfl ?_
      refine g_ald (v := zI (H 94 l2)) zp231 rfl rfl rfl rfl c2 rfl ?_
      refine g_goto zp231 rfl ?_
      refine g_is (ls' := [zR 81, zI (H 94 l2), zI l2]) zp231 rfl rfl (Nat.le_of_ble_eq_true rfl) rfl ?_
      refine g_inc (ls' := [zR 81, zI (H 94 l2), zI (w32 (l2 + 1))]) zp231 rfl rfl rfl rfl ?_
      refine g_goto zp231 rfl ?_
      exact g_weak (ls' := [zR 81, zI (H 94 l2), zI (w32 (l2 + 1))]) ⟨Or.inr rfl, Or.inr rfl, Or.inr rfl, trivial⟩ h
theorem zp232 : zprog.getD 232 [] = zk232 := rfl
theorem x232_0 {w : zWt} {d : Nat} {H : zHt} {K : Int → zHt → Prop} {l1 : Int} {l2 : Int}
    (h : zclI w d 173 [zL l2, zL 0, zL 1] H (fun x2 H1 => zclI w d 225 [zR 81, zI x2, zI l1] H1 (fun x4 H3 => (¬ x4 = 0 → (¬ l2 = 0 → zclI w d 233 [zR 81] H3 (fun x8 H7 => K x8 H7)) ∧ (l2 = 0 → zclI w d 233 [zR 81] H3 (fun x10 H9 => (0 ≤ x10 ∧ x10 < 101) ∧ K (H9 94 x10) H9))) ∧ (x4 = 0 → K (-1) H3)))) :
    zclI w (d + 1) 232 [zR 81, zI l1, zI l2] H K := by
  show zgo w (d + 1) 232 0 [zR 81, zI l1, zI l2] [] H (zQI K)
  refine g_al zp232 rfl rfl rfl (by decide) ?_
  refine g_il zp232 rfl rfl rfl ?_
  refine g_i2l zp232 rfl rfl ?_
  refine g_lc zp232 rfl rfl ?_
  refine g_lc zp232 rfl rfl ?_
  refine g_callI (as := [zL l2, zL 0, zL 1]) (rest := [zR 81]) zp232 rfl rfl (Nat.succ_pos _) rfl rfl (Nat.le_of_ble_eq_true rfl) (Nat.le_of_ble_eq_true rfl) rfl rfl h (fun x2 H1 h => ?_)
  refine g_il zp232 rfl rfl rfl ?_
  refine g_callI (as := [zR 81, zI x2, zI l1]) (rest := []) zp232 rfl rfl (Nat.succ_pos _) rfl rfl (Nat.le_of_ble_eq_true rfl) (Nat.le_of_ble_eq_true rfl) rfl rfl h (fun x4 H3 h => ?_)
  refine g_if zp232 rfl rfl zc1 (fun c5 => ?_) (fun c5 => ?_)
  · replace h := h.1 c5
    refine g_il zp232 rfl rfl rfl ?_
    refine g_if zp232 rfl rfl zc1 (fun c6 => ?_) (fun c6 => ?_)
    · replace h := h.1 c6
      refine g_al zp232 rfl rfl rfl (by decide) ?_
      refine g_callI (as := [zR 81]) (rest := []) zp232 rfl rfl (Nat.succ_pos _) rfl rfl (Nat.le_of_ble_eq_true rfl) (Nat.le_of_ble_eq_true rfl) rfl rfl h (fun x8 H7 h => ?_)
      exact g_ret zp232 rfl rfl ⟨_, rfl, h⟩
    · replace h := h.2 c6
      refine g_al zp232 rfl rfl rfl (by decide) ?_
      refine g_get (v := zR 94) zp232 rfl rfl rfl ⟨rfl, by decide, (by decide)⟩ rfl ?_
      refine g_al zp232 rfl rfl rfl (by decide) ?_
      refine g_callI (as := [zR 81]) (rest := [zR 94]) zp232 rfl rfl (Nat.succ_pos _) rfl rfl (Nat.le_of_ble_eq_true rfl) (Nat.le_of_ble_eq_true rfl) rfl rfl h (fun x10 H9 h => ?_)
      obtain ⟨c11, h⟩ := h
      refine g_ald (v := zI (H9 94 x10)) zp232 rfl rfl rfl rfl c11 rfl ?_
      refine g_goto zp232 rfl ?_
      exact g_ret zp232 rfl rfl ⟨_, rfl, h⟩
  · replace h := h.2 c5
    refine g_ic zp232 rfl rfl ?_
    exact g_ret zp232 rfl rfl ⟨_, rfl, h⟩
theorem zp233 : zprog.getD 233 [] = zk233 := rfl
theorem x233_0 {w : zWt} {d : Nat} {H : zHt} {K : Int → zHt → Prop} 
    (h : zgo w d 233 4 [zR 81, zI 0, zI 1] [] H (zQI K)) :
    zclI w d 233 [zR 81] H K := by
  show zgo w d 233 0 [zR 81, zJ, zJ] [] H (zQI K)
  refine g_ic zp233 rfl rfl ?_
  refine g_is (ls' := [zR 81, zI 0, zJ]) zp233 rfl rfl (Nat.le_of_ble_eq_true rfl) rfl ?_
  refine g_ic zp233 rfl rfl ?_
  refine g_is (ls' := [zR 81, zI 0, zI 1]) zp233 rfl rfl (Nat.le_of_ble_eq_true rfl) rfl ?_
  exact g_weak (ls' := [zR 81, zI 0, zI 1]) ⟨Or.inr rfl, Or.inr rfl, Or.inr rfl, trivial⟩ h
theorem x233_4 {w : zWt} {d : Nat} {H : zHt} {K : Int → zHt → Prop} {l1 : Int} {l2 : Int}
    (h : ((H 81 21) ≤ l2 → K l1 H) ∧ (l2 < (H 81 21) → (0 ≤ l2 ∧ l2 < 101) ∧ (0 ≤ l1 ∧ l1 < 101) ∧ ((H 94 l2) ≤ (H 94 l1) → zgo w d 233 4 [zR 81, zI l1, zI (w32 (l2 + 1))] [] H (zQI K)) ∧ ((H 94 l1) < (H 94 l2) → zgo w d 233 4 [zR 81, zI l2, zI (w32 (l2 + 1))] [] H (zQI K)))) :
    zgo w d 233 4 [zR 81, zI l1, zI l2] [] H (zQI K) := by
  refine g_il zp233 rfl rfl rfl ?_
  refine g_al zp233 rfl rfl rfl (by decide) ?_
  refine g_get (v := zI (H 81 21)) zp233 rfl rfl rfl ⟨rfl, by decide, (by decide)⟩ rfl ?_
  refine g_icmp zp233 rfl rfl zc3 (fun c1 => ?_) (fun c1 => ?_)
  · replace h := h.1 c1
    refine g_il zp233 rfl rfl rfl ?_
    exact g_ret zp233 rfl rfl ⟨_, rfl, h⟩
  · replace h := h.2 c1
    refine g_al zp233 rfl rfl rfl (by decide) ?_
    refine g_get (v := zR 94) zp233 rfl rfl rfl ⟨rfl, by decide, (by decide)⟩ rfl ?_
    refine g_il zp233 rfl rfl rfl ?_
    obtain ⟨c2, h⟩ := h
    refine g_ald (v := zI (H 94 l2)) zp233 rfl rfl rfl rfl c2 rfl ?_
    refine g_al zp233 rfl rfl rfl (by decide) ?_
    refine g_get (v := zR 94) zp233 rfl rfl rfl ⟨rfl, by decide, (by decide)⟩ rfl ?_
    refine g_il zp233 rfl rfl rfl ?_
    obtain ⟨c3, h⟩ := h
    refine g_ald (v := zI (H 94 l1)) zp233 rfl rfl rfl rfl c3 rfl ?_
    refine g_icmp zp233 rfl rfl zc5 (fun c4 => ?_) (fun c4 => ?_)
    · replace h := h.1 c4
      refine g_il zp233 rfl rfl rfl ?_
      refine g_is (ls' := [zR 81, zI l1, zI l2]) zp233 rfl rfl (Nat.le_of_ble_eq_true rfl) rfl ?_
      refine g_inc (ls' := [zR 81, zI l1, zI (w32 (l2 + 1))]) zp233 rfl rfl rfl rfl ?_
      refine g_goto zp233 rfl ?_
      exact g_weak (ls' := [zR 81, zI l1, zI (w32 (l2 + 1))]) ⟨Or.inr rfl, Or.inr rfl, Or.inr rfl, trivial⟩ h
    · replace h := h.2 c4
      refine g_il zp233 rfl rfl rfl ?_
      refine g_goto zp233 rfl ?_
      refine g_is (ls' := [zR 81, zI l2, zI l2]) zp233 rfl rfl (Nat.le_of_ble_eq_true rfl) rfl ?_
      refine g_inc (ls' := [zR 81, zI l2, zI (w32 (l2 + 1))]) zp233 rfl rfl rfl rfl ?_
      refine g_goto zp233 rfl ?_
      exact g_weak (ls' := [zR 81, zI l2, zI (w32 (l2 + 1))]) ⟨Or.inr rfl, Or.inr rfl, Or.inr rfl, trivial⟩ h
theorem zp234 : zprog.getD 234 [] = zk234 := rfl
theorem x234_0 {w : zWt} {d : Nat} {H : zHt} {K : Int → zHt → Prop} {l1 : Int} {l2 : Int}
    (h : zclI w d 173 [zL l2, zL 0, zL 1] H (fun x2 H1 => zclI w d 225 [zR 81, zI x2, zI l1] H1 (fun x4 H3 => (¬ x4 = 0 → zgo w (d + 1) 234 28 [zR 81, zJ, zI l2, zI 0, zI 0, zI 0, zI 0] [] H3 (zQI K)) ∧ (x4 = 0 → K (-1) H3)))) :
    zclI w (d + 1) 234 [zR 81, zI l1, zI l2] H K := by
  show zgo w (d + 1) 234 0 [zR 81, zI l1, zI l2, zJ, zJ, zJ, zJ] [] H (zQI K)
  refine g_al zp234 rfl rfl rfl (by decide) ?_
  refine g_il zp234 rfl rfl rfl ?_
  refine g_i2l zp234 rfl rfl ?_
  refine g_lc zp234 rfl rfl ?_
  refine g_lc zp234 rfl rfl ?_
  refine g_callI (as := [zL l2, zL 0, zL 1]) (rest := [zR 81]) zp234 rfl rfl (Nat.succ_pos _) rfl rfl (Nat.le_of_ble_eq_true rfl) (Nat.le_of_ble_eq_true rfl) rfl rfl h (fun x2 H1 h => ?_)
  refine g_il zp234 rfl rfl rfl ?_
  refine g_callI (as := [zR 81, zI x2, zI l1]) (rest := []) zp234 rfl rfl (Nat.succ_pos _) rfl rfl (Nat.le_of_ble_eq_true rfl) (Nat.le_of_ble_eq_true rfl) rfl rfl h (fun x4 H3 h => ?_)
  refine g_if zp234 rfl rfl zc1 (fun c5 => ?_) (fun c5 => ?_)
  · replace h := h.1 c5
    refine g_ic zp234 rfl rfl ?_
    refine g_is (ls' := [zR 81, zI l1, zI l2, zI 0, zJ, zJ, zJ]) zp234 rfl rfl (Nat.le_of_ble_eq_true rfl) rfl ?_
    refine g_ic zp234 rfl rfl ?_
    refine g_is (ls' := [zR 81, zI l1, zI l2, zI 0, zI 0, zJ, zJ]) zp234 rfl rfl (Nat.le_of_ble_eq_true rfl) rfl ?_
    refine g_ic zp234 rfl rfl ?_
    refine g_is (ls' := [zR 81, zI l1, zI l2, zI 0, zI 0, zI 0, zJ]) zp234 rfl rfl (Nat.le_of_ble_eq_true rfl) rfl ?_
    refine g_ic zp234 rfl rfl ?_
    refine g_is (ls' := [zR 81, zI l1, zI l2, zI 0, zI 0, zI 0, zI 0]) zp234 rfl rfl (Nat.le_of_ble_eq_true rfl) rfl ?_
    exact g_weak (ls' := [zR 81, zJ, zI l2, zI 0, zI 0, zI 0, zI 0]) ⟨Or.inr rfl, Or.inl rfl, Or.inr rfl, Or.inr rfl, Or.inr rfl, Or.inr rfl, Or.inr rfl, trivial⟩ h
  · replace h := h.2 c5
    refine g_ic zp234 rfl rfl ?_
    exact g_ret zp234 rfl rfl ⟨_, rfl, h⟩
theorem x234_28 {w : zWt} {d : Nat} {H : zHt} {K : Int → zHt → Prop} {l2 : Int} {l3 : Int} {l4 : Int} {l5 : Int} {l6 : Int}
    (h : ((H 81 21) ≤ l6 → (¬ l2 = 0 → K l3 H) ∧ (l2 = 0 → K l4 H)) ∧ (l6 < (H 81 21) → (l6 ≤ 0 → (l4 < (w32 ((w32 (l6 - l6)) + 1)) → zgo w (d + 1) 234 28 [zR 81, zJ, zI l2, zI l6, zI (w32 ((w32 (l6 - l6)) + 1)), zI l6, zI (w32 (l6 + 1))] [] H (zQI K)) ∧ ((w32 ((w32 (l6 - l6)) + 1)) ≤ l4 → zgo w (d + 1) 234 28 [zR 81, zJ, zI l2, zI l3, zI l4, zI l6, zI (w32 (l6 + 1))] [] H (zQI K))) ∧ (0 < l6 → (0 ≤ l6 ∧ l6 < 101) ∧ (0 ≤ (w32 (l6 - 1)) ∧ (w32 (l6 - 1)) < 101) ∧ ((H 94 l6) ≤ (H 94 (w32 (l6 - 1))) → (l4 < (w32 ((w32 (l6 - l6)) + 1)) → zgo w (d + 1) 234 28 [zR 81, zJ, zI l2, zI l6, zI (w32 ((w32 (l6 - l6)) + 1)), zI l6, zI (w32 (l6 + 1))] [] H (zQI K)) ∧ ((w32 ((w32 (l6 - l6)) + 1)) ≤ l4 → zgo w (d + 1) 234 28 [zR 81, zJ, zI l2, zI l3, zI l4, zI l6, zI (w32 (l6 + 1))] [] H (zQI K))) ∧ ((H 94 (w32 (l6 - 1))) < (H 94 l6) → (l4 < (w32 ((w32 (l6 - l5)) + 1)) → zgo w (d + 1) 234 28 [zR 81, zJ, zI l2, zI l5, zI (w32 ((w32 (l6 - l5)) + 1)), zI l5, zI (w32 (l6 + 1))] [] H (zQI K)) ∧ ((w32 ((w32 (l6 - l5)) + 1)) ≤ l4 → zgo w (d + 1) 234 28 [zR 81, zJ, zI l2, zI l3, zI l4, zI l5, zI (w32 (l6 + 1))] [] H (zQI K)))))) :
    zgo w (d + 1) 234 28 [zR 81, zJ, zI l2, zI l3, zI l4, zI l5, zI l6] [] H (zQI K) := by
  refine g_il zp234 rfl rfl rfl ?_
  refine g_al zp234 rfl rfl rfl (by decide) ?_
  refine g_get (v := zI (H 81 21)) zp234 rfl rfl rfl ⟨rfl, by decide, (by decide)⟩ rfl ?_
  refine g_icmp zp234 rfl rfl zc3 (fun c1 => ?_) (fun c1 => ?_)
  · replace h := h.1 c1
    refine g_il zp234 rfl rfl rfl ?_
    refine g_if zp234 rfl rfl zc1 (fun c2 => ?_) (fun c2 => ?_)
    · replace h := h.1 c2
      refine g_il zp234 rfl rfl rfl ?_
      exact g_ret zp234 rfl rfl ⟨_, rfl, h⟩
    · replace h := h.2 c2
      refine g_il zp234 rfl rfl rfl ?_
      refine g_goto zp234 rfl ?_
      exact g_ret zp234 rfl rfl ⟨_, rfl, h⟩
  · replace h := h.2 c1
    refine g_il zp234 rfl rfl rfl ?_
    refine g_if zp234 rfl rfl zc5 (fun c3 => ?_) (fun c3 => ?_)
    · replace h := h.1 c3
      refine g_il zp234 rfl rfl rfl ?_
      refine g_is (ls' := [zR 81, zJ, zI l2, zI l3, zI l4, zI l6, zI l6]) zp234 rfl rfl (Nat.le_of_ble_eq_true rfl) rfl ?_
      refine g_il zp234 rfl rfl rfl ?_
      refine g_il zp234 rfl rfl rfl ?_
      refine g_ar (r := w32 (l6 - l6)) zp234 rfl rfl rfl ?_
      refine g_ic zp234 rfl rfl ?_
      refine g_ar (r := w32 ((w32 (l6 - l6)) + 1)) zp234 rfl rfl rfl ?_
      refine g_il zp234 rfl rfl rfl ?_
      refine g_icmp zp234 rfl rfl zc4 (fun c4 => ?_) (fun c4 => ?_)
      · replace h := h.1 c4
        refine g_il zp234 rfl rfl rfl ?_
        refine g_il zp234 rfl rfl rfl ?_
        refine g_ar (r := w32 (l6 - l6)) zp234 rfl rfl rfl ?_
        refine g_ic zp234 rfl rfl ?_
        refine g_ar (r := w32 ((w32 (l6 - l6)) + 1)) zp234 rfl rfl rfl ?_
        refine g_is (ls' := [zR 81, zJ, zI l2, zI l3, zI (w32 ((w32 (l6 - l6)) + 1)), zI l6, zI l6]) zp234 rfl rfl (Nat.le_of_ble_eq_true rfl) rfl ?_
        refine g_il zp234 rfl rfl rfl ?_
        refine g_is (ls' := [zR 81, zJ, zI l2, zI l6, zI (w32 ((w32 (l6 - l6)) + 1)), zI l6, zI l6]) zp234 rfl rfl (Nat.le_of_ble_eq_true rfl) rfl ?_
        refine g_inc (ls' := [zR 81, zJ, zI l2, zI l6, zI (w32 ((w32 (l6 - l6)) + 1)), zI l6, zI (w32 (l6 + 1))]) zp234 rfl rfl rfl rfl ?_
        refine g_goto zp234 rfl ?_
        exact g_weak (ls' := [zR 81, zJ, zI l2, zI l6, zI (w32 ((w32 (l6 - l6)) + 1)), zI l6, zI (w32 (l6 + 1))]) ⟨Or.inr rfl, Or.inr rfl, Or.inr rfl, Or.inr rfl, Or.inr rfl, Or.inr rfl, Or.inr rfl, trivial⟩ h
      · replace h := h.2 c4
        refine g_goto zp234 rfl ?_
        refine g_inc (ls' := [zR 81, zJ, zI l2, zI l3, zI l4, zI l6, zI (w32 (l6 + 1))]) zp234 rfl rfl rfl rfl ?_
        refine g_goto zp234 rfl ?_
        exact g_weak (ls' := [zR 81, zJ, zI l2, zI l3, zI l4, zI l6, zI (w32 (l6 + 1))]) ⟨Or.inr rfl, Or.inr rfl, Or.inr rfl, Or.inr rfl, Or.inr rfl, Or.inr rfl, Or.inr rfl, trivial⟩ h
    · replace h := h.2 c3
      refine g_al zp234 rfl rfl rfl (by decide) ?_
      refine g_get (v := zR 94) zp234 rfl rfl rfl ⟨rfl, by decide, (by decide)⟩ rfl ?_
      refine g_il zp234 rfl rfl rfl ?_
      obtain ⟨c5, h⟩ := h
      refine g_ald (v := zI (H 94 l6)) zp234 rfl rfl rfl rfl c5 rfl ?_
      refine g_al zp234 rfl rfl rfl (by decide) ?_
      refine g_get (v := zR 94) zp234 rfl rfl rfl ⟨rfl, by decide, (by decide)⟩ rfl ?_
      refine g_il zp234 rfl rfl rfl ?_
      refine g_ic zp234 rfl rfl ?_
      refine g_ar (r := w32 (l6 - 1)) zp234 rfl rfl rfl ?_
      obtain ⟨c6, h⟩ := h
      refine g_ald (v := zI (H 94 (w32 (l6 - 1)))) zp234 rfl rfl rfl rfl c6 rfl ?_
      refine g_icmp zp234 rfl rfl zc5 (fun c7 => ?_) (fun c7 => ?_)
      · replace h := h.1 c7
        refine g_il zp234 rfl rfl rfl ?_
        refine g_is (ls' := [zR 81, zJ, zI l2, zI l3, zI l4, zI l6, zI l6]) zp234 rfl rfl (Nat.le_of_ble_eq_true rfl) rfl ?_
        refine g_il zp234 rfl rfl rfl ?_
        refine g_il zp234 rfl rfl rfl ?_
        refine g_ar (r := w32 (l6 - l6)) zp234 rfl rfl rfl ?_
        refine g_ic zp234 rfl rfl ?_
        refine g_ar (r := w32 ((w32 (l6 - l6)) + 1)) zp234 rfl rfl rfl ?_
        refine g_il zp234 rfl rfl rfl ?_
        refine g_icmp zp234 rfl rfl zc4 (fun c8 => ?_) (fun c8 => ?_)
        · replace h := h.1 c8
          refine g_il zp234 rfl rfl rfl ?_
          refine g_il zp234 rfl rfl rfl ?_
          refine g_ar (r := w32 (l6 - l6)) zp234 rfl rfl rfl ?_
          refine g_ic zp234 rfl rfl ?_
          refine g_ar (r := w32 ((w32 (l6 - l6)) + 1)) zp234 rfl rfl rfl ?_
          refine g_is (ls' := [zR 81, zJ, zI l2, zI l3, zI (w32 ((w32 (l6 - l6)) + 1)), zI l6, zI l6]) zp234 rfl rfl (Nat.le_of_ble_eq_true rfl) rfl ?_
          refine g_il zp234 rfl rfl rfl ?_
          refine g_is (ls' := [zR 81, zJ, zI l2, zI l6, zI (w32 ((w32 (l6 - l6)) + 1)), zI l6, zI l6]) zp234 rfl rfl (Nat.le_of_ble_eq_true rfl) rfl ?_
          refine g_inc (ls' := [zR 81, zJ, zI l2, zI l6, zI (w32 ((w32 (l6 - l6)) + 1)), zI l6, zI (w32 (l6 + 1))]) zp234 rfl rfl rfl rfl ?_
          refine g_goto zp234 rfl ?_
          exact g_weak (ls' := [zR 81, zJ, zI l2, zI l6, zI (w32 ((w32 (l6 - l6)) + 1)), zI l6, zI (w32 (l6 + 1))]) ⟨Or.inr rfl, Or.inr rfl, Or.inr rfl, Or.inr rfl, Or.inr rfl, Or.inr rfl, Or.inr rfl, trivial⟩ h
        · replace h := h.2 c8
          refine g_goto zp234 rfl ?_
          refine g_inc (ls' := [zR 81, zJ, zI l2, zI l3, zI l4, zI l6, zI (w32 (l6 + 1))]) zp234 rfl rfl rfl rfl ?_
          refine g_goto zp234 rfl ?_
          exact g_weak (ls' := [zR 81, zJ, zI l2, zI l3, zI l4, zI l6, zI (w32 (l6 + 1))]) ⟨Or.inr rfl, Or.inr rfl, Or.inr rfl, Or.inr rfl, Or.inr rfl, Or.inr rfl, Or.inr rfl, trivial⟩ h
      · replace h := h.2 c7
        refine g_il zp234 rfl rfl rfl ?_
        refine g_goto zp234 rfl ?_
        refine g_is (ls' := [zR 81, zJ, zI l2, zI l3, zI l4, zI l5, zI l6]) zp234 rfl rfl (Nat.le_of_ble_eq_true rfl) rfl ?_
        refine g_il zp234 rfl rfl rfl ?_
        refine g_il zp234 rfl rfl rfl ?_
        refine g_ar (r := w32 (l6 - l5)) zp234 rfl rfl rfl ?_
        refine g_ic zp234 rfl rfl ?_
        refine g_ar (r := w32 ((w32 (l6 - l5)) + 1)) zp234 rfl rfl rfl ?_
        refine g_il zp234 rfl rfl rfl ?_
        refine g_icmp zp234 rfl rfl zc4 (fun c9 => ?_) (fun c9 => ?_)
        · replace h := h.1 c9
          refine g_il zp234 rfl rfl rfl ?_
          refine g_il zp234 rfl rfl rfl ?_
          refine g_ar (r := w32 (l6 - l5)) zp234 rfl rfl rfl ?_
          refine g_ic zp234 rfl rfl ?_
          refine g_ar (r := w32 ((w32 (l6 - l5)) + 1)) zp234 rfl rfl rfl ?_
          refine g_is (ls' := [zR 81, zJ, zI l2, zI l3, zI (w32 ((w32 (l6 - l5)) + 1)), zI l5, zI l6]) zp234 rfl rfl (Nat.le_of_ble_eq_true rfl) rfl ?_
          refine g_il zp234 rfl rfl rfl ?_
          refine g_is (ls' := [zR 81, zJ, zI l2, zI l5, zI (w32 ((w32 (l6 - l5)) + 1)), zI l5, zI l6]) zp234 rfl rfl (Nat.le_of_ble_eq_true rfl) rfl ?_
          refine g_inc (ls' := [zR 81, zJ, zI l2, zI l5, zI (w32 ((w32 (l6 - l5)) + 1)), zI l5, zI (w32 (l6 + 1))]) zp234 rfl rfl rfl rfl ?_
          refine g_goto zp234 rfl ?_
          exact g_weak (ls' := [zR 81, zJ, zI l2, zI l5, zI (w32 ((w32 (l6 - l5)) + 1)), zI l5, zI (w32 (l6 + 1))]) ⟨Or.inr rfl, Or.inr rfl, Or.inr rfl, Or.inr rfl, Or.inr rfl, Or.inr rfl, Or.inr rfl, trivial⟩ h
        · replace h := h.2 c9
          refine g_goto zp234 rfl ?_
          refine g_inc (ls' := [zR 81, zJ, zI l2, zI l3, zI l4, zI l5, zI (w32 (l6 + 1))]) zp234 rfl rfl rfl rfl ?_
          refine g_goto zp234 rfl ?_
          exact g_weak (ls' := [zR 81, zJ, zI l2, zI l3, zI l4, zI l5, zI (w32 (l6 + 1))]) ⟨Or.inr rfl, Or.inr rfl, Or.inr rfl, Or.inr rfl, Or.inr rfl, Or.inr rfl, Or.inr rfl, trivial⟩ h
theorem zp235 : zprog.getD 235 [] = zk235 := rfl
theorem x235_0 {w : zWt} {d : Nat} {H : zHt} {K : Int → zHt → Prop} {l1 : Int} {l2 : Int}
    (h : zclI w d 173 [zL l2, zL 0, zL 2] H (fun x2 H1 => zclI w d 225 [zR 81, zI x2, zI l1] H1 (fun x4 H3 => (¬ x4 = 0 → zgo w (d + 1) 235 26 [zR 81, zJ, zI l2, zL 0, zJ, zI 0] [] H3 (zQL K)) ∧ (x4 = 0 → K (-1) H3)))) :
    zclL w (d + 1) 235 [zR 81, zI l1, zI l2] H K := by
  show zgo w (d + 1) 235 0 [zR 81, zI l1, zI l2, zJ, zJ, zJ] [] H (zQL K)
  refine g_al zp235 rfl rfl rfl (by decide) ?_
  refine g_il zp235 rfl rfl rfl ?_
  refine g_i2l zp235 rfl rfl ?_
  refine g_lc zp235 rfl rfl ?_
  refine g_lc zp235 rfl rfl ?_
  refine g_callI (as := [zL l2, zL 0, zL 2]) (rest := [zR 81]) zp235 rfl rfl (Nat.succ_pos _) rfl rfl (Nat.le_of_ble_eq_true rfl) (Nat.le_of_ble_eq_true rfl) rfl rfl h (fun x2 H1 h => ?_)
  refine g_il zp235 rfl rfl rfl ?_
  refine g_callI (as := [zR 81, zI x2, zI l1]) (rest := []) zp235 rfl rfl (Nat.succ_pos _) rfl rfl (Nat.le_of_ble_eq_true rfl) (Nat.le_of_ble_eq_true rfl) rfl rfl h (fun x4 H3 h => ?_)
  refine g_if zp235 rfl rfl zc1 (fun c5 => ?_) (fun c5 => ?_)
  · replace h := h.1 c5
    refine g_lc zp235 rfl rfl ?_
    refine g_ls (ls' := [zR 81, zI l1, zI l2, zL 0, zJ, zJ]) zp235 rfl rfl (Nat.le_of_ble_eq_true rfl) rfl ?_
    refine g_ic zp235 rfl rfl ?_
    refine g_is (ls' := [zR 81, zI l1, zI l2, zL 0, zJ, zI 0]) zp235 rfl rfl (Nat.le_of_ble_eq_true rfl) rfl ?_
    exact g_weak (ls' := [zR 81, zJ, zI l2, zL 0, zJ, zI 0]) ⟨Or.inr rfl, Or.inl rfl, Or.inr rfl, Or.inr rfl, Or.inr rfl, Or.inr rfl, trivial⟩ h
  · replace h := h.2 c5
    refine g_lc zp235 rfl rfl ?_
    exact g_ret zp235 rfl rfl ⟨_, rfl, h⟩
theorem x235_26 {w : zWt} {d : Nat} {H : zHt} {K : Int → zHt → Prop} {l2 : Int} {l3 : Int} {l5 : Int}
    (h : ((H 81 21) ≤ l5 → K l3 H) ∧ (l5 < (H 81 21) → (¬ l2 = 0 → (¬ l2 = 1 → (0 ≤ l5 ∧ l5 < 101) ∧ zclI w d 220 [zR 81, zI (H 94 l5)] H (fun x6 H5 => (x6 = 0 → zgo w (d + 1) 235 26 [zR 81, zJ, zI l2, zL (w64 (l3 + 0)), zJ, zI (w32 (l5 + 1))] [] H5 (zQL K)) ∧ (¬ x6 = 0 → zgo w (d + 1) 235 26 [zR 81, zJ, zI l2, zL (w64 (l3 + 1)), zJ, zI (w32 (l5 + 1))] [] H5 (zQL K)))) ∧ (l2 = 1 → (0 ≤ l5 ∧ l5 < 101) ∧ zgo w (d + 1) 235 26 [zR 81, zJ, zI l2, zL (w64 (l3 + (Int.tmod (H 94 l5) 2))), zJ, zI (w32 (l5 + 1))] [] H (zQL K))) ∧ (l2 = 0 → (0 ≤ l5 ∧ l5 < 101) ∧ zgo w (d + 1) 235 26 [zR 81, zJ, zI l2, zL (w64 (l3 + (H 94 l5))), zJ, zI (w32 (l5 + 1))] [] H (zQL K)))) :
    zgo w (d + 1) 235 26 [zR 81, zJ, zI l2, zL l3, zJ, zI l5] [] H (zQL K) := by
  refine g_il zp235 rfl rfl rfl ?_
  refine g_al zp235 rfl rfl rfl (by decide) ?_
  refine g_get (v := zI (H 81 21)) zp235 rfl rfl rfl ⟨rfl, by decide, (by decide)⟩ rfl ?_
  refine g_icmp zp235 rfl rfl zc3 (fun c1 => ?_) (fun c1 => ?_)
  · replace h := h.1 c1
    refine g_ll zp235 rfl rfl rfl ?_
    exact g_ret zp235 rfl rfl ⟨_, rfl, h⟩
  · replace h := h.2 c1
    refine g_ll zp235 rfl rfl rfl ?_
    refine g_il zp235 rfl rfl rfl ?_
    refine g_if zp235 rfl rfl zc1 (fun c2 => ?_) (fun c2 => ?_)
    · replace h := h.1 c2
      refine g_il zp235 rfl rfl rfl ?_
      refine g_ic zp235 rfl rfl ?_
      refine g_icmp zp235 rfl rfl zc1 (fun c3 => ?_) (fun c3 => ?_)
      · replace h := h.1 c3
        refine g_al zp235 rfl rfl rfl (by decide) ?_
        refine g_al zp235 rfl rfl rfl (by decide) ?_
        refine g_get (v := zR 94) zp235 rfl rfl rfl ⟨rfl, by decide, (by decide)⟩ rfl ?_
        refine g_il zp235 rfl rfl rfl ?_
        obtain ⟨c4, h⟩ := h
        refine g_ald (v := zI (H 94 l5)) zp235 rfl rfl rfl rfl c4 rfl ?_
        refine g_callI (as := [zR 81, zI (H 94 l5)]) (rest := [zL l3]) zp235 rfl rfl (Nat.succ_pos _) rfl rfl (Nat.le_of_ble_eq_true rfl) (Nat.le_of_ble_eq_true rfl) rfl rfl h (fun x6 H5 h => ?_)
        refine g_if zp235 rfl rfl zc0 (fun c7 => ?_) (fun c7 => ?_)
        · replace h := h.1 c7
          refine g_lc zp235 rfl rfl ?_
          refine g_lar (r := w64 (l3 + 0)) zp235 rfl rfl rfl ?_
          refine g_ls (ls' := [zR 81, zJ, zI l2, zL (w64 (l3 + 0)), zJ, zI l5]) zp235 rfl rfl (Nat.le_of_ble_eq_true rfl) rfl ?_
          refine g_inc (ls' := [zR 81, zJ, zI l2, zL (w64 (l3 + 0)), zJ, zI (w32 (l5 + 1))]) zp235 rfl rfl rfl rfl ?_
          refine g_goto zp235 rfl ?_
          exact g_weak (ls' := [zR 81, zJ, zI l2, zL (w64 (l3 + 0)), zJ, zI (w32 (l5 + 1))]) ⟨Or.inr rfl, Or.inr rfl, Or.inr rfl, Or.inr rfl, Or.inr rfl, Or.inr rfl, trivial⟩ h
        · replace h := h.2 c7
          refine g_lc zp235 rfl rfl ?_
          refine g_goto zp235 rfl ?_
          refine g_lar (r := w64 (l3 + 1)) zp235 rfl rfl rfl ?_
          refine g_ls (ls' := [zR 81, zJ, zI l2, zL (w64 (l3 + 1)), zJ, zI l5]) zp235 rfl rfl (Nat.le_of_ble_eq_true rfl) rfl ?_
          refine g_inc (ls' := [zR 81, zJ, zI l2, zL (w64 (l3 + 1)), zJ, zI (w32 (l5 + 1))]) zp235 rfl rfl rfl rfl ?_
          refine g_goto zp235 rfl ?_
          exact g_weak (ls' := [zR 81, zJ, zI l2, zL (w64 (l3 + 1)), zJ, zI (w32 (l5 + 1))]) ⟨Or.inr rfl, Or.inr rfl, Or.inr rfl, Or.inr rfl, Or.inr rfl, Or.inr rfl, trivial⟩ h
      · replace h := h.2 c3
        refine g_al zp235 rfl rfl rfl (by decide) ?_
        refine g_get (v := zR 94) zp235 rfl rfl rfl ⟨rfl, by decide, (by decide)⟩ rfl ?_
        refine g_il zp235 rfl rfl rfl ?_
        obtain ⟨c8, h⟩ := h
        refine g_ald (v := zI (H 94 l5)) zp235 rfl rfl rfl rfl c8 rfl ?_
        refine g_ic zp235 rfl rfl ?_
        refine g_ar (r := Int.tmod (H 94 l5) 2) zp235 rfl rfl (zr_rem (by decide)) ?_
        refine g_i2l zp235 rfl rfl ?_
        refine g_goto zp235 rfl ?_
        refine g_lar (r := w64 (l3 + (Int.tmod (H 94 l5) 2))) zp235 rfl rfl rfl ?_
        refine g_ls (ls' := [zR 81, zJ, zI l2, zL (w64 (l3 + (Int.tmod (H 94 l5) 2))), zJ, zI l5]) zp235 rfl rfl (Nat.le_of_ble_eq_true rfl) rfl ?_
        refine g_inc (ls' := [zR 81, zJ, zI l2, zL (w64 (l3 + (Int.tmod (H 94 l5) 2))), zJ, zI (w32 (l5 + 1))]) zp235 rfl rfl rfl rfl ?_
        refine g_goto zp235 rfl ?_
        exact g_weak (ls' := [zR 81, zJ, zI l2, zL (w64 (l3 + (Int.tmod (H 94 l5) 2))), zJ, zI (w32 (l5 + 1))]) ⟨Or.inr rfl, Or.inr rfl, Or.inr rfl, Or.inr rfl, Or.inr rfl, Or.inr rfl, trivial⟩ h
    · replace h := h.2 c2
      refine g_al zp235 rfl rfl rfl (by decide) ?_
      refine g_get (v := zR 94) zp235 rfl rfl rfl ⟨rfl, by decide, (by decide)⟩ rfl ?_
      refine g_il zp235 rfl rfl rfl ?_
      obtain ⟨c9, h⟩ := h
      refine g_ald (v := zI (H 94 l5)) zp235 rfl rfl rfl rfl c9 rfl ?_
      refine g_i2l zp235 rfl rfl ?_
      refine g_goto zp235 rfl ?_
      refine g_lar (r := w64 (l3 + (H 94 l5))) zp235 rfl rfl rfl ?_
      refine g_ls (ls' := [zR 81, zJ, zI l2, zL (w64 (l3 + (H 94 l5))), zJ, zI l5]) zp235 rfl rfl (Nat.le_of_ble_eq_true rfl) rfl ?_
      refine g_inc (ls' := [zR 81, zJ, zI l2, zL (w64 (l3 + (H 94 l5))), zJ, zI (w32 (l5 + 1))]) zp235 rfl rfl rfl rfl ?_
      refine g_goto zp235 rfl ?_
      exact g_weak (ls' := [zR 81, zJ, zI l2, zL (w64 (l3 + (H 94 l5))), zJ, zI (w32 (l5 + 1))]) ⟨Or.inr rfl, Or.inr rfl, Or.inr rfl, Or.inr rfl, Or.inr rfl, Or.inr rfl, trivial⟩ h
theorem zp236 : zprog.getD 236 [] = zk236 := rfl
theorem x236_0 {w : zWt} {d : Nat} {H : zHt} {K : Int → zHt → Prop} {l1 : Int} {l2 : Int}
    (h : (l2 < 0 → zgo w (d + 1) 236 10 [zR 81, zI l1, zI l2] [zI 0, zR 81] H (zQI K)) ∧ (0 ≤ l2 → zgo w (d + 1) 236 10 [zR 81, zI l1, zI l2] [zI 1, zR 81] H (zQI K))) :
    zclI w (d + 1) 236 [zR 81, zI l1, zI l2] H K := by
  show zgo w (d + 1) 236 0 [zR 81, zI l1, zI l2] [] H (zQI K)
  refine g_al zp236 rfl rfl rfl (by decide) ?_
  refine g_il zp236 rfl rfl rfl ?_
  refine g_if zp236 rfl rfl zc2 (fun c1 => ?_) (fun c1 => ?_)
  · replace h := h.1 c1
    refine g_ic zp236 rfl rfl ?_
    exact g_weak (ls' := [zR 81, zI l1, zI l2]) ⟨Or.inr rfl, Or.inr rfl, Or.inr rfl, trivial⟩ h
  · replace h := h.2 c1
    refine g_ic zp236 rfl rfl ?_
    refine g_goto zp236 rfl ?_
    exact g_weak (ls' := [zR 81, zI l1, zI l2]) ⟨Or.inr rfl, Or.inr rfl, Or.inr rfl, trivial⟩ h
theorem x236_10 {w : zWt} {d : Nat} {H : zHt} {K : Int → zHt → Prop} {l1 : Int} {l2 : Int} {s1 : Int}
    (h : zclI w d 225 [zR 81, zI s1, zI l1] H (fun x2 H1 => (¬ x2 = 0 → ((H1 81 21) ≤ (w64 (l2 + 1)) → zclI w d 178 [zR 81, zI 5] H1 (fun x6 H5 => K x6 H5)) ∧ ((w64 (l2 + 1)) < (H1 81 21) → (0 ≤ (w32 (l2 + 1)) ∧ (w32 (l2 + 1)) < 101) ∧ (0 ≤ l2 ∧ l2 < 101) ∧ ((H1 94 l2) ≠ 0) ∧ K (w32 (w64 (Int.tdiv (w64 (1000 * (H1 94 (w32 (l2 + 1))))) (H1 94 l2)))) H1)) ∧ (x2 = 0 → K (-1) H1))) :
    zgo w (d + 1) 236 10 [zR 81, zI l1, zI l2] [zI s1, zR 81] H (zQI K) := by
  refine g_il zp236 rfl rfl rfl ?_
  refine g_callI (as := [zR 81, zI s1, zI l1]) (rest := []) zp236 rfl rfl (Nat.succ_pos _) rfl rfl (Nat.le_of_ble_eq_true rfl) (Nat.le_of_ble_eq_true rfl) rfl rfl h (fun x2 H1 h => ?_)
  refine g_if zp236 rfl rfl zc1 (fun c3 => ?_) (fun c3 => ?_)
  · replace h := h.1 c3
    refine g_il zp236 rfl rfl rfl ?_
    refine g_i2l zp236 rfl rfl ?_
    refine g_lc zp236 rfl rfl ?_
    refine g_lar (r := w64 (l2 + 1)) zp236 rfl rfl rfl ?_
    refine g_al zp236 rfl rfl rfl (by decide) ?_
    refine g_get (v := zI (H1 81 21)) zp236 rfl rfl rfl ⟨rfl, by decide, (by decide)⟩ rfl ?_
    refine g_i2l zp236 rfl rfl ?_
    refine g_lcmp zp236 rfl rfl rfl rfl zc3 (fun c4 => ?_) (fun c4 => ?_)
    · replace h := h.1 c4
      refine g_al zp236 rfl rfl rfl (by decide) ?_
      refine g_ic zp236 rfl rfl ?_
      refine g_callI (as := [zR 81, zI 5]) (rest := []) zp236 rfl rfl (Nat.succ_pos _) rfl rfl (Nat.le_of_ble_eq_true rfl) (Nat.le_of_ble_eq_true rfl) rfl rfl h (fun x6 H5 h => ?_)
      exact g_ret zp236 rfl rfl ⟨_, rfl, h⟩
    · replace h := h.2 c4
      refine g_lc zp236 rfl rfl ?_
      refine g_al zp236 rfl rfl rfl (by decide) ?_
      refine g_get (v := zR 94) zp236 rfl rfl rfl ⟨rfl, by decide, (by decide)⟩ rfl ?_
      refine g_il zp236 rfl rfl rfl ?_
      refine g_ic zp236 rfl rfl ?_
      refine g_ar (r := w32 (l2 + 1)) zp236 rfl rfl rfl ?_
      obtain ⟨c7, h⟩ := h
      refine g_ald (v := zI (H1 94 (w32 (l2 + 1)))) zp236 rfl rfl rfl rfl c7 rfl ?_
      refine g_i2l zp236 rfl rfl ?_
      refine g_lar (r := w64 (1000 * (H1 94 (w32 (l2 + 1))))) zp236 rfl rfl rfl ?_
      refine g_al zp236 rfl rfl rfl (by decide) ?_
      refine g_get (v := zR 94) zp236 rfl rfl rfl ⟨rfl, by decide, (by decide)⟩ rfl ?_
      refine g_il zp236 rfl rfl rfl ?_
      obtain ⟨c8, h⟩ := h
      refine g_ald (v := zI (H1 94 l2)) zp236 rfl rfl rfl rfl c8 rfl ?_
      refine g_i2l zp236 rfl rfl ?_
      obtain ⟨c9, h⟩ := h
      refine g_lar (r := w64 (Int.tdiv (w64 (1000 * (H1 94 (w32 (l2 + 1))))) (H1 94 l2))) zp236 rfl rfl (zr_ldiv c9) ?_
      refine g_l2i zp236 rfl rfl ?_
      refine g_goto zp236 rfl ?_
      exact g_ret zp236 rfl rfl ⟨_, rfl, h⟩
  · replace h := h.2 c3
    refine g_ic zp236 rfl rfl ?_
    exact g_ret zp236 rfl rfl ⟨_, rfl, h⟩
theorem zp237 : zprog.getD 237 [] = zk237 := rfl
theorem x237_0 {w : zWt} {d : Nat} {H : zHt} {K : Int → zHt → Prop} {l1 : Int} {l2 : Int}
    (h : zclI w d 173 [zL l2, zL 0, zL 3] H (fun x2 H1 => zclI w d 225 [zR 81, zI x2, zI l1] H1 (fun x4 H3 => (¬ x4 = 0 → zgo w (d + 1) 237 39 [zR 81, zJ, zI l2, zI 0, zI 0, zI (-1), zI 0, zI 0, zI 0, zI 0, zJ, zJ, zJ] [] H3 (zQI K)) ∧ (x4 = 0 → K (-1) H3)))) :
    zclI w (d + 1) 237 [zR 81, zI l1, zI l2] H K := by
  show zgo w (d + 1) 237 0 [zR 81, zI l1, zI l2, zJ, zJ, zJ, zJ, zJ, zJ, zJ, zJ, zJ, zJ] [] H (zQI K)
  refine g_al zp237 rfl rfl rfl (by decide) ?_
  refine g_il zp237 rfl rfl rfl ?_
  refine g_i2l zp237 rfl rfl ?_
  refine g_lc zp237 rfl rfl ?_
  refine g_lc zp237 rfl rfl ?_
  refine g_callI (as := [zL l2, zL 0, zL 3]) (rest := [zR 81]) zp237 rfl rfl (Nat.succ_pos _) rfl rfl (Nat.le_of_ble_eq_true rfl) (Nat.le_of_ble_eq_true rfl) rfl rfl h (fun x2 H1 h => ?_)
  refine g_il zp237 rfl rfl rfl ?_
  refine g_callI (as := [zR 81, zI x2, zI l1]) (rest := []) zp237 rfl rfl (Nat.succ_pos _) rfl rfl (Nat.le_of_ble_eq_true rfl) (Nat.le_of_ble_eq_true rfl) rfl rfl h (fun x4 H3 h => ?_)
  refine g_if zp237 rfl rfl zc1 (fun c5 => ?_) (fun c5 => ?_)
  · replace h := h.1 c5
    refine g_ic zp237 rfl rfl ?_
    refine g_is (ls' := [zR 81, zI l1, zI l2, zI 0, zJ, zJ, zJ, zJ, zJ, zJ, zJ, zJ, zJ]) zp237 rfl rfl (Nat.le_of_ble_eq_true rfl) rfl ?_
    refine g_ic zp237 rfl rfl ?_
    refine g_is (ls' := [zR 81, zI l1, zI l2, zI 0, zI 0, zJ, zJ, zJ, zJ, zJ, zJ, zJ, zJ]) zp237 rfl rfl (Nat.le_of_ble_eq_true rfl) rfl ?_
    refine g_ic zp237 rfl rfl ?_
    refine g_is (ls' := [zR 81, zI l1, zI l2, zI 0, zI 0, zI (-1), zJ, zJ, zJ, zJ, zJ, zJ, zJ]) zp237 rfl rfl (Nat.le_of_ble_eq_true rfl) rfl ?_
    refine g_ic zp237 rfl rfl ?_
    refine g_is (ls' := [zR 81, zI l1, zI l2, zI 0, zI 0, zI (-1), zI 0, zJ, zJ, zJ, zJ, zJ, zJ]) zp237 rfl rfl (Nat.le_of_ble_eq_true rfl) rfl ?_
    refine g_ic zp237 rfl rfl ?_
    refine g_is (ls' := [zR 81, zI l1, zI l2, zI 0, zI 0, zI (-1), zI 0, zI 0, zJ, zJ, zJ, zJ, zJ]) zp237 rfl rfl (Nat.le_of_ble_eq_true rfl) rfl ?_
    refine g_ic zp237 rfl rfl ?_
    refine g_is (ls' := [zR 81, zI l1, zI l2, zI 0, zI 0, zI (-1), zI 0, zI 0, zI 0, zJ, zJ, zJ, zJ]) zp237 rfl rfl (Nat.le_of_ble_eq_true rfl) rfl ?_
    refine g_ic zp237 rfl rfl ?_
    refine g_is (ls' := [zR 81, zI l1, zI l2, zI 0, zI 0, zI (-1), zI 0, zI 0, zI 0, zI 0, zJ, zJ, zJ]) zp237 rfl rfl (Nat.le_of_ble_eq_true rfl) rfl ?_
    exact g_weak (ls' := [zR 81, zJ, zI l2, zI 0, zI 0, zI (-1), zI 0, zI 0, zI 0, zI 0, zJ, zJ, zJ]) ⟨Or.inr rfl, Or.inl rfl, Or.inr rfl, Or.inr rfl, Or.inr rfl, Or.inr rfl, Or.inr rfl, Or.inr rfl, Or.inr rfl, Or.inr rfl, Or.inr rfl, Or.inr rfl, Or.inr rfl, trivial⟩ h
  · replace h := h.2 c5
    refine g_ic zp237 rfl rfl ?_
    exact g_ret zp237 rfl rfl ⟨_, rfl, h⟩
theorem x237_39 {w : zWt} {d : Nat} {H : zHt} {K : Int → zHt → Prop} {l2 : Int} {l3 : Int} {l4 : Int} {l5 : Int} {l6 : Int} {l7 : Int} {l8 : Int} {l9 : Int}
    (h : ((H 81 21) ≤ l9 → (l2 < 0 ∨ 3 ≤ l2 → K l7 H) ∧ (l2 = 0 → K l3 H) ∧ (l2 = 1 → K l4 H) ∧ (l2 = 2 → (0 ≤ l5 → K l5 H) ∧ (l5 < 0 → zclI w d 178 [zR 81, zI 5] H (fun x4 H3 => K x4 H3)))) ∧ (l9 < (H 81 21) → zclI w d 238 [zR 81, zI l9] H (fun x6 H5 => (x6 ≤ 0 → zgo w (d + 1) 237 73 [zR 81, zJ, zI l2, zI l3, zI l4, zI l5, zI l6, zI l7, zJ, zI l9, zI x6, zJ, zJ] [zI 0] H5 (zQI K)) ∧ (0 < x6 → (¬ x6 = l8 → zgo w (d + 1) 237 73 [zR 81, zJ, zI l2, zI l3, zI l4, zI l5, zI l6, zI l7, zJ, zI l9, zI x6, zJ, zJ] [zI 0] H5 (zQI K)) ∧ (x6 = l8 → zgo w (d + 1) 237 73 [zR 81, zJ, zI l2, zI l3, zI l4, zI l5, zI l6, zI l7, zJ, zI l9, zI x6, zJ, zJ] [zI 1] H5 (zQI K)))))) :
    zgo w (d + 1) 237 39 [zR 81, zJ, zI l2, zI l3, zI l4, zI l5, zI l6, zI l7, zI l8, zI l9, zJ, zJ, zJ] [] H (zQI K) := by
  refine g_il zp237 rfl rfl rfl ?_
  refine g_al zp237 rfl rfl rfl (by decide) ?_
  refine g_get (v := zI (H 81 21)) zp237 rfl rfl rfl ⟨rfl, by decide, (by decide)⟩ rfl ?_
  refine g_icmp zp237 rfl rfl zc3 (fun c1 => ?_) (fun c1 => ?_)
  · replace h := h.1 c1
    refine g_il zp237 rfl rfl rfl ?_
    rcases Classical.em (l2 < 0 ∨ 3 ≤ l2) with c | c
    · refine g_tabO zp237 rfl c ?_
      replace h := h.1 c
      refine g_il zp237 rfl rfl rfl ?_
      exact g_ret zp237 rfl rfl ⟨_, rfl, h⟩
    · replace h := h.2
      have hh : l2 = 0 ∨ l2 = 1 ∨ l2 = 2 := by omega
      rcases hh with c | c | c
      · replace h := h.1 c
        refine g_tabE (z := 0) zp237 rfl c (by decide) rfl ?_
        refine g_il zp237 rfl rfl rfl ?_
        exact g_ret zp237 rfl rfl ⟨_, rfl, h⟩
      · replace h := h.2.1 c
        refine g_tabE (z := 1) zp237 rfl c (by decide) rfl ?_
        refine g_il zp237 rfl rfl rfl ?_
        exact g_ret zp237 rfl rfl ⟨_, rfl, h⟩
      · replace h := h.2.2 c
        refine g_tabE (z := 2) zp237 rfl c (by decide) rfl ?_
        refine g_il zp237 rfl rfl rfl ?_
        refine g_if zp237 rfl rfl zc3 (fun c2 => ?_) (fun c2 => ?_)
        · replace h := h.1 c2
          refine g_il zp237 rfl rfl rfl ?_
          exact g_ret zp237 rfl rfl ⟨_, rfl, h⟩
        · replace h := h.2 c2
          refine g_al zp237 rfl rfl rfl (by decide) ?_
          refine g_ic zp237 rfl rfl ?_
          refine g_callI (as := [zR 81, zI 5]) (rest := []) zp237 rfl rfl (Nat.succ_pos _) rfl rfl (Nat.le_of_ble_eq_true rfl) (Nat.le_of_ble_eq_true rfl) rfl rfl h (fun x4 H3 h => ?_)
          refine g_goto zp237 rfl ?_
          exact g_ret zp237 rfl rfl ⟨_, rfl, h⟩
  · replace h := h.2 c1
    refine g_al zp237 rfl rfl rfl (by decide) ?_
    refine g_il zp237 rfl rfl rfl ?_
    refine g_callI (as := [zR 81, zI l9]) (rest := []) zp237 rfl rfl (Nat.succ_pos _) rfl rfl (Nat.le_of_ble_eq_true rfl) (Nat.le_of_ble_eq_true rfl) rfl rfl h (fun x6 H5 h => ?_)
    refine g_is (ls' := [zR 81, zJ, zI l2, zI l3, zI l4, zI l5, zI l6, zI l7, zI l8, zI l9, zI x6, zJ, zJ]) zp237 rfl rfl (Nat.le_of_ble_eq_true rfl) rfl ?_
    refine g_il zp237 rfl rfl rfl ?_
    refine g_if zp237 rfl rfl zc5 (fun c7 => ?_) (fun c7 => ?_)
    · replace h := h.1 c7
      refine g_ic zp237 rfl rfl ?_
      exact g_weak (ls' := [zR 81, zJ, zI l2, zI l3, zI l4, zI l5, zI l6, zI l7, zJ, zI l9, zI x6, zJ, zJ]) ⟨Or.inr rfl, Or.inr rfl, Or.inr rfl, Or.inr rfl, Or.inr rfl, Or.inr rfl, Or.inr rfl, Or.inr rfl, Or.inl rfl, Or.inr rfl, Or.inr rfl, Or.inr rfl, Or.inr rfl, trivial⟩ h
    · replace h := h.2 c7
      refine g_il zp237 rfl rfl rfl ?_
      refine g_il zp237 rfl rfl rfl ?_
      refine g_icmp zp237 rfl rfl zc1 (fun c8 => ?_) (fun c8 => ?_)
      · replace h := h.1 c8
        refine g_ic zp237 rfl rfl ?_
        exact g_weak (ls' := [zR 81, zJ, zI l2, zI l3, zI l4, zI l5, zI l6, zI l7, zJ, zI l9, zI x6, zJ, zJ]) ⟨Or.inr rfl, Or.inr rfl, Or.inr rfl, Or.inr rfl, Or.inr rfl, Or.inr rfl, Or.inr rfl, Or.inr rfl, Or.inl rfl, Or.inr rfl, Or.inr rfl, Or.inr rfl, Or.inr rfl, trivial⟩ h
      · replace h := h.2 c8
        refine g_ic zp237 rfl rfl ?_
        refine g_goto zp237 rfl ?_
        exact g_weak (ls' := [zR 81, zJ, zI l2, zI l3, zI l4, zI l5, zI l6, zI l7, zJ, zI l9, zI x6, zJ, zJ]) ⟨Or.inr rfl, Or.inr rfl, Or.inr rfl, Or.inr rfl, Or.inr rfl, Or.inr rfl, Or.inr rfl, Or.inr rfl, Or.inl rfl, Or.inr rfl, Or.inr rfl, Or.inr rfl, Or.inr rfl, trivial⟩ h
theorem x237_73 {w : zWt} {d : Nat} {H : zHt} {K : Int → zHt → Prop} {l2 : Int} {l3 : Int} {l4 : Int} {l5 : Int} {l6 : Int} {l7 : Int} {l9 : Int} {l10 : Int} {s0 : Int}
    (h : (l10 ≤ 0 → (s0 = 0 → zgo w (d + 1) 237 112 [zR 81, zJ, zI l2, zJ, zI l4, zI l5, zI l6, zI l7, zJ, zI l9, zI l10, zI s0, zI 0] [zI 0, zI l3] H (zQI K)) ∧ (¬ s0 = 0 → zgo w (d + 1) 237 112 [zR 81, zJ, zI l2, zJ, zI l4, zI l5, zI l6, zI l7, zJ, zI l9, zI l10, zI s0, zI 0] [zI 1, zI l3] H (zQI K))) ∧ (0 < l10 → (0 ≤ l9 ∧ l9 < 101) ∧ zclI w d 191 [zR 81, zI (H 94 l9)] H (fun x5 H4 => (x5 = 0 → (s0 = 0 → zgo w (d + 1) 237 112 [zR 81, zJ, zI l2, zJ, zI l4, zI l5, zI l6, zI l7, zJ, zI l9, zI l10, zI s0, zI 0] [zI 0, zI l3] H4 (zQI K)) ∧ (¬ s0 = 0 → zgo w (d + 1) 237 112 [zR 81, zJ, zI l2, zJ, zI l4, zI l5, zI l6, zI l7, zJ, zI l9, zI l10, zI s0, zI 0] [zI 1, zI l3] H4 (zQI K))) ∧ (¬ x5 = 0 → (s0 = 0 → zgo w (d + 1) 237 112 [zR 81, zJ, zI l2, zJ, zI l4, zI l5, zI l6, zI l7, zJ, zI l9, zI l10, zI s0, zI 1] [zI 0, zI l3] H4 (zQI K)) ∧ (¬ s0 = 0 → zgo w (d + 1) 237 112 [zR 81, zJ, zI l2, zJ, zI l4, zI l5, zI l6, zI l7, zJ, zI l9, zI l10, zI s0, zI 1] [zI 1, zI l3] H4 (zQI K)))))) :
    zgo w (d + 1) 237 73 [zR 81, zJ, zI l2, zI l3, zI l4, zI l5, zI l6, zI l7, zJ, zI l9, zI l10, zJ, zJ] [zI s0] H (zQI K) := by
  refine g_is (ls' := [zR 81, zJ, zI l2, zI l3, zI l4, zI l5, zI l6, zI l7, zJ, zI l9, zI l10, zI s0, zJ]) zp237 rfl rfl (Nat.le_of_ble_eq_true rfl) rfl ?_
  refine g_il zp237 rfl rfl rfl ?_
  refine g_if zp237 rfl rfl zc5 (fun c1 => ?_) (fun c1 => ?_)
  · replace h := h.1 c1
    refine g_ic zp237 rfl rfl ?_
    refine g_is (ls' := [zR 81, zJ, zI l2, zI l3, zI l4, zI l5, zI l6, zI l7, zJ, zI l9, zI l10, zI s0, zI 0]) zp237 rfl rfl (Nat.le_of_ble_eq_true rfl) rfl ?_
    refine g_il zp237 rfl rfl rfl ?_
    refine g_il zp237 rfl rfl rfl ?_
    refine g_if zp237 rfl rfl zc0 (fun c2 => ?_) (fun c2 => ?_)
    · replace h := h.1 c2
      refine g_ic zp237 rfl rfl ?_
      exact g_weak (ls' := [zR 81, zJ, zI l2, zJ, zI l4, zI l5, zI l6, zI l7, zJ, zI l9, zI l10, zI s0, zI 0]) ⟨Or.inr rfl, Or.inr rfl, Or.inr rfl, Or.inl rfl, Or.inr rfl, Or.inr rfl, Or.inr rfl, Or.inr rfl, Or.inr rfl, Or.inr rfl, Or.inr rfl, Or.inr rfl, Or.inr rfl, trivial⟩ h
    · replace h := h.2 c2
      refine g_ic zp237 rfl rfl ?_
      refine g_goto zp237 rfl ?_
      exact g_weak (ls' := [zR 81, zJ, zI l2, zJ, zI l4, zI l5, zI l6, zI l7, zJ, zI l9, zI l10, zI s0, zI 0]) ⟨Or.inr rfl, Or.inr rfl, Or.inr rfl, Or.inl rfl, Or.inr rfl, Or.inr rfl, Or.inr rfl, Or.inr rfl, Or.inr rfl, Or.inr rfl, Or.inr rfl, Or.inr rfl, Or.inr rfl, trivial⟩ h
  · replace h := h.2 c1
    refine g_al zp237 rfl rfl rfl (by decide) ?_
    refine g_al zp237 rfl rfl rfl (by decide) ?_
    refine g_get (v := zR 94) zp237 rfl rfl rfl ⟨rfl, by decide, (by decide)⟩ rfl ?_
    refine g_il zp237 rfl rfl rfl ?_
    obtain ⟨c3, h⟩ := h
    refine g_ald (v := zI (H 94 l9)) zp237 rfl rfl rfl rfl c3 rfl ?_
    refine g_callI (as := [zR 81, zI (H 94 l9)]) (rest := []) zp237 rfl rfl (Nat.succ_pos _) rfl rfl (Nat.le_of_ble_eq_true rfl) (Nat.le_of_ble_eq_true rfl) rfl rfl h (fun x5 H4 h => ?_)
    refine g_if zp237 rfl rfl zc0 (fun c6 => ?_) (fun c6 => ?_)
    · replace h := h.1 c6
      refine g_ic zp237 rfl rfl ?_
      refine g_is (ls' := [zR 81, zJ, zI l2, zI l3, zI l4, zI l5, zI l6, zI l7, zJ, zI l9, zI l10, zI s0, zI 0]) zp237 rfl rfl (Nat.le_of_ble_eq_true rfl) rfl ?_
      refine g_il zp237 rfl rfl rfl ?_
      refine g_il zp237 rfl rfl rfl ?_
      refine g_if zp237 rfl rfl zc0 (fun c7 => ?_) (fun c7 => ?_)
      · replace h := h.1 c7
        refine g_ic zp237 rfl rfl ?_
        exact g_weak (ls' := [zR 81, zJ, zI l2, zJ, zI l4, zI l5, zI l6, zI l7, zJ, zI l9, zI l10, zI s0, zI 0]) ⟨Or.inr rfl, Or.inr rfl, Or.inr rfl, Or.inl rfl, Or.inr rfl, Or.inr rfl, Or.inr rfl, Or.inr rfl, Or.inr rfl, Or.inr rfl, Or.inr rfl, Or.inr rfl, Or.inr rfl, trivial⟩ h
      · replace h := h.2 c7
        refine g_ic zp237 rfl rfl ?_
        refine g_goto zp237 rfl ?_
        exact g_weak (ls' := [zR 81, zJ, zI l2, zJ, zI l4, zI l5, zI l6, zI l7, zJ, zI l9, zI l10, zI s0, zI 0]) ⟨Or.inr rfl, Or.inr rfl, Or.inr rfl, Or.inl rfl, Or.inr rfl, Or.inr rfl, Or.inr rfl, Or.inr rfl, Or.inr rfl, Or.inr rfl, Or.inr rfl, Or.inr rfl, Or.inr rfl, trivial⟩ h
    · replace h := h.2 c6
      refine g_ic zp237 rfl rfl ?_
      refine g_goto zp237 rfl ?_
      refine g_is (ls' := [zR 81, zJ, zI l2, zI l3, zI l4, zI l5, zI l6, zI l7, zJ, zI l9, zI l10, zI s0, zI 1]) zp237 rfl rfl (Nat.le_of_ble_eq_true rfl) rfl ?_
      refine g_il zp237 rfl rfl rfl ?_
      refine g_il zp237 rfl rfl rfl ?_
      refine g_if zp237 rfl rfl zc0 (fun c8 => ?_) (fun c8 => ?_)
      · replace h := h.1 c8
        refine g_ic zp237 rfl rfl ?_
        exact g_weak (ls' := [zR 81, zJ, zI l2, zJ, zI l4, zI l5, zI l6, zI l7, zJ, zI l9, zI l10, zI s0, zI 1]) ⟨Or.inr rfl, Or.inr rfl, Or.inr rfl, Or.inl rfl, Or.inr rfl, Or.inr rfl, Or.inr rfl, Or.inr rfl, Or.inr rfl, Or.inr rfl, Or.inr rfl, Or.inr rfl, Or.inr rfl, trivial⟩ h
      · replace h := h.2 c8
        refine g_ic zp237 rfl rfl ?_
        refine g_goto zp237 rfl ?_
        exact g_weak (ls' := [zR 81, zJ, zI l2, zJ, zI l4, zI l5, zI l6, zI l7, zJ, zI l9, zI l10, zI s0, zI 1]) ⟨Or.inr rfl, Or.inr rfl, Or.inr rfl, Or.inl rfl, Or.inr rfl, Or.inr rfl, Or.inr rfl, Or.inr rfl, Or.inr rfl, Or.inr rfl, Or.inr rfl, Or.inr rfl, Or.inr rfl, trivial⟩ h
theorem x237_112 {w : zWt} {d : Nat} {H : zHt} {K : Int → zHt → Prop} {l2 : Int} {l4 : Int} {l5 : Int} {l6 : Int} {l7 : Int} {l9 : Int} {l10 : Int} {l11 : Int} {l12 : Int} {s0 : Int} {s1 : Int}
    (h : (l12 = 0 → (0 ≤ l5 → zgo w (d + 1) 237 146 [zR 81, zJ, zI l2, zI (w32 (s0 + s1)), zI (w32 (l4 + 0)), zJ, zI l6, zI l7, zJ, zI l9, zI l10, zI l11, zJ] [zI l5] H (zQI K)) ∧ (l5 < 0 → (l12 = 0 → zgo w (d + 1) 237 146 [zR 81, zJ, zI l2, zI (w32 (s0 + s1)), zI (w32 (l4 + 0)), zJ, zI l6, zI l7, zJ, zI l9, zI l10, zI l11, zJ] [zI l5] H (zQI K)) ∧ (¬ l12 = 0 → zgo w (d + 1) 237 146 [zR 81, zJ, zI l2, zI (w32 (s0 + s1)), zI (w32 (l4 + 0)), zJ, zI l6, zI l7, zJ, zI l9, zI l10, zI l11, zJ] [zI l9] H (zQI K)))) ∧ (¬ l12 = 0 → (0 ≤ l5 → zgo w (d + 1) 237 146 [zR 81, zJ, zI l2, zI (w32 (s0 + s1)), zI (w32 (l4 + 1)), zJ, zI l6, zI l7, zJ, zI l9, zI l10, zI l11, zJ] [zI l5] H (zQI K)) ∧ (l5 < 0 → (l12 = 0 → zgo w (d + 1) 237 146 [zR 81, zJ, zI l2, zI (w32 (s0 + s1)), zI (w32 (l4 + 1)), zJ, zI l6, zI l7, zJ, zI l9, zI l10, zI l11, zJ] [zI l5] H (zQI K)) ∧ (¬ l12 = 0 → zgo w (d + 1) 237 146 [zR 81, zJ, zI l2, zI (w32 (s0 + s1)), zI (w32 (l4 + 1)), zJ, zI l6, zI l7, zJ, zI l9, zI l10, zI l11, zJ] [zI l9] H (zQI K))))) :
    zgo w (d + 1) 237 112 [zR 81, zJ, zI l2, zJ, zI l4, zI l5, zI l6, zI l7, zJ, zI l9, zI l10, zI l11, zI l12] [zI s1, zI s0] H (zQI K) := by
  refine g_ar (r := w32 (s0 + s1)) zp237 rfl rfl rfl ?_
  refine g_is (ls' := [zR 81, zJ, zI l2, zI (w32 (s0 + s1)), zI l4, zI l5, zI l6, zI l7, zJ, zI l9, zI l10, zI l11, zI l12]) zp237 rfl rfl (Nat.le_of_ble_eq_true rfl) rfl ?_
  refine g_il zp237 rfl rfl rfl ?_
  refine g_il zp237 rfl rfl rfl ?_
  refine g_if zp237 rfl rfl zc0 (fun c1 => ?_) (fun c1 => ?_)
  · replace h := h.1 c1
    refine g_ic zp237 rfl rfl ?_
    refine g_ar (r := w32 (l4 + 0)) zp237 rfl rfl rfl ?_
    refine g_is (ls' := [zR 81, zJ, zI l2, zI (w32 (s0 + s1)), zI (w32 (l4 + 0)), zI l5, zI l6, zI l7, zJ, zI l9, zI l10, zI l11, zI l12]) zp237 rfl rfl (Nat.le_of_ble_eq_true rfl) rfl ?_
    refine g_il zp237 rfl rfl rfl ?_
    refine g_if zp237 rfl rfl zc3 (fun c2 => ?_) (fun c2 => ?_)
    · replace h := h.1 c2
      refine g_il zp237 rfl rfl rfl ?_
      exact g_weak (ls' := [zR 81, zJ, zI l2, zI (w32 (s0 + s1)), zI (w32 (l4 + 0)), zJ, zI l6, zI l7, zJ, zI l9, zI l10, zI l11, zJ]) ⟨Or.inr rfl, Or.inr rfl, Or.inr rfl, Or.inr rfl, Or.inr rfl, Or.inl rfl, Or.inr rfl, Or.inr rfl, Or.inr rfl, Or.inr rfl, Or.inr rfl, Or.inr rfl, Or.inl rfl, trivial⟩ h
    · replace h := h.2 c2
      refine g_il zp237 rfl rfl rfl ?_
      refine g_if zp237 rfl rfl zc0 (fun c3 => ?_) (fun c3 => ?_)
      · replace h := h.1 c3
        refine g_il zp237 rfl rfl rfl ?_
        exact g_weak (ls' := [zR 81, zJ, zI l2, zI (w32 (s0 + s1)), zI (w32 (l4 + 0)), zJ, zI l6, zI l7, zJ, zI l9, zI l10, zI l11, zJ]) ⟨Or.inr rfl, Or.inr rfl, Or.inr rfl, Or.inr rfl, Or.inr rfl, Or.inl rfl, Or.inr rfl, Or.inr rfl, Or.inr rfl, Or.inr rfl, Or.inr rfl, Or.inr rfl, Or.inl rfl, trivial⟩ h
      · replace h := h.2 c3
        refine g_il zp237 rfl rfl rfl ?_
        refine g_goto zp237 rfl ?_
        exact g_weak (ls' := [zR 81, zJ, zI l2, zI (w32 (s0 + s1)), zI (w32 (l4 + 0)), zJ, zI l6, zI l7, zJ, zI l9, zI l10, zI l11, zJ]) ⟨Or.inr rfl, Or.inr rfl, Or.inr rfl, Or.inr rfl, Or.inr rfl, Or.inl rfl, Or.inr rfl, Or.inr rfl, Or.inr rfl, Or.inr rfl, Or.inr rfl, Or.inr rfl, Or.inl rfl, trivial⟩ h
  · replace h := h.2 c1
    refine g_ic zp237 rfl rfl ?_
    refine g_goto zp237 rfl ?_
    refine g_ar (r := w32 (l4 + 1)) zp237 rfl rfl rfl ?_
    refine g_is (ls' := [zR 81, zJ, zI l2, zI (w32 (s0 + s1)), zI (w32 (l4 + 1)), zI l5, zI l6, zI l7, zJ, zI l9, zI l10, zI l11, zI l12]) zp237 rfl rfl (Nat.le_of_ble_eq_true rfl) rfl ?_
    refine g_il zp237 rfl rfl rfl ?_
    refine g_if zp237 rfl rfl zc3 (fun c4 => ?_) (fun c4 => ?_)
    · replace h := h.1 c4
      refine g_il zp237 rfl rfl rfl ?_
      exact g_weak (ls' := [zR 81, zJ, zI l2, zI (w32 (s0 + s1)), zI (w32 (l4 + 1)), zJ, zI l6, zI l7, zJ, zI l9, zI l10, zI l11, zJ]) ⟨Or.inr rfl, Or.inr rfl, Or.inr rfl, Or.inr rfl, Or.inr rfl, Or.inl rfl, Or.inr rfl, Or.inr rfl, Or.inr rfl, Or.inr rfl, Or.inr rfl, Or.inr rfl, Or.inl rfl, trivial⟩ h
    · replace h := h.2 c4
      refine g_il zp237 rfl rfl rfl ?_
      refine g_if zp237 rfl rfl zc0 (fun c5 => ?_) (fun c5 => ?_)
      · replace h := h.1 c5
        refine g_il zp237 rfl rfl rfl ?_
        exact g_weak (ls' := [zR 81, zJ, zI l2, zI (w32 (s0 + s1)), zI (w32 (l4 + 1)), zJ, zI l6, zI l7, zJ, zI l9, zI l10, zI l11, zJ]) ⟨Or.inr rfl, Or.inr rfl, Or.inr rfl, Or.inr rfl, Or.inr rfl, Or.inl rfl, Or.inr rfl, Or.inr rfl, Or.inr rfl, Or.inr rfl, Or.inr rfl, Or.inr rfl, Or.inl rfl, trivial⟩ h
      · replace h := h.2 c5
        refine g_il zp237 rfl rfl rfl ?_
        refine g_goto zp237 rfl ?_
        exact g_weak (ls' := [zR 81, zJ, zI l2, zI (w32 (s0 + s1)), zI (w32 (l4 + 1)), zJ, zI l6, zI l7, zJ, zI l9, zI l10, zI l11, zJ]) ⟨Or.inr rfl, Or.inr rfl, Or.inr rfl, Or.inr rfl, Or.inr rfl, Or.inl rfl, Or.inr rfl, Or.inr rfl, Or.inr rfl, Or.inr rfl, Or.inr rfl, Or.inr rfl, Or.inl rfl, trivial⟩ h
theorem x237_146 {w : zWt} {d : Nat} {H : zHt} {K : Int → zHt → Prop} {l2 : Int} {l3 : Int} {l4 : Int} {l6 : Int} {l7 : Int} {l9 : Int} {l10 : Int} {l11 : Int} {s0 : Int}
    (h : (¬ l10 = 0 → (l11 = 0 → (1 ≤ l7 → zgo w (d + 1) 237 39 [zR 81, zJ, zI l2, zI l3, zI l4, zI s0, zI 1, zI l7, zI l10, zI (w32 (l9 + 1)), zJ, zJ, zJ] [] H (zQI K)) ∧ (l7 < 1 → zgo w (d + 1) 237 39 [zR 81, zJ, zI l2, zI l3, zI l4, zI s0, zI 1, zI 1, zI l10, zI (w32 (l9 + 1)), zJ, zJ, zJ] [] H (zQI K))) ∧ (¬ l11 = 0 → ((w32 (l6 + 1)) ≤ l7 → zgo w (d + 1) 237 39 [zR 81, zJ, zI l2, zI l3, zI l4, zI s0, zI (w32 (l6 + 1)), zI l7, zI l10, zI (w32 (l9 + 1)), zJ, zJ, zJ] [] H (zQI K)) ∧ (l7 < (w32 (l6 + 1)) → zgo w (d + 1) 237 39 [zR 81, zJ, zI l2, zI l3, zI l4, zI s0, zI (w32 (l6 + 1)), zI (w32 (l6 + 1)), zI l10, zI (w32 (l9 + 1)), zJ, zJ, zJ] [] H (zQI K)))) ∧ (l10 = 0 → (0 ≤ l7 → zgo w (d + 1) 237 39 [zR 81, zJ, zI l2, zI l3, zI l4, zI s0, zI 0, zI l7, zI l10, zI (w32 (l9 + 1)), zJ, zJ, zJ] [] H (zQI K)) ∧ (l7 < 0 → zgo w (d + 1) 237 39 [zR 81, zJ, zI l2, zI l3, zI l4, zI s0, zI 0, zI 0, zI l10, zI (w32 (l9 + 1)), zJ, zJ, zJ] [] H (zQI K)))) :
    zgo w (d + 1) 237 146 [zR 81, zJ, zI l2, zI l3, zI l4, zJ, zI l6, zI l7, zJ, zI l9, zI l10, zI l11, zJ] [zI s0] H (zQI K) := by
  refine g_is (ls' := [zR 81, zJ, zI l2, zI l3, zI l4, zI s0, zI l6, zI l7, zJ, zI l9, zI l10, zI l11, zJ]) zp237 rfl rfl (Nat.le_of_ble_eq_true rfl) rfl ?_
  refine g_il zp237 rfl rfl rfl ?_
  refine g_if zp237 rfl rfl zc1 (fun c1 => ?_) (fun c1 => ?_)
  · replace h := h.1 c1
    refine g_il zp237 rfl rfl rfl ?_
    refine g_if zp237 rfl rfl zc0 (fun c2 => ?_) (fun c2 => ?_)
    · replace h := h.1 c2
      refine g_ic zp237 rfl rfl ?_
      refine g_is (ls' := [zR 81, zJ, zI l2, zI l3, zI l4, zI s0, zI 1, zI l7, zJ, zI l9, zI l10, zI l11, zJ]) zp237 rfl rfl (Nat.le_of_ble_eq_true rfl) rfl ?_
      refine g_il zp237 rfl rfl rfl ?_
      refine g_il zp237 rfl rfl rfl ?_
      refine g_icmp zp237 rfl rfl zc5 (fun c3 => ?_) (fun c3 => ?_)
      · replace h := h.1 c3
        refine g_il zp237 rfl rfl rfl ?_
        refine g_is (ls' := [zR 81, zJ, zI l2, zI l3, zI l4, zI s0, zI 1, zI l7, zJ, zI l9, zI l10, zI l11, zJ]) zp237 rfl rfl (Nat.le_of_ble_eq_true rfl) rfl ?_
        refine g_il zp237 rfl rfl rfl ?_
        refine g_is (ls' := [zR 81, zJ, zI l2, zI l3, zI l4, zI s0, zI 1, zI l7, zI l10, zI l9, zI l10, zI l11, zJ]) zp237 rfl rfl (Nat.le_of_ble_eq_true rfl) rfl ?_
        refine g_inc (ls' := [zR 81, zJ, zI l2, zI l3, zI l4, zI s0, zI 1, zI l7, zI l10, zI (w32 (l9 + 1)), zI l10, zI l11, zJ]) zp237 rfl rfl rfl rfl ?_
        refine g_goto zp237 rfl ?_
        exact g_weak (ls' := [zR 81, zJ, zI l2, zI l3, zI l4, zI s0, zI 1, zI l7, zI l10, zI (w32 (l9 + 1)), zJ, zJ, zJ]) ⟨Or.inr rfl, Or.inr rfl, Or.inr rfl, Or.inr rfl, Or.inr rfl, Or.inr rfl, Or.inr rfl, Or.inr rfl, Or.inr rfl, Or.inr rfl, Or.inl rfl, Or.inl rfl, Or.inr rfl, trivial⟩ h
      · replace h := h.2 c3
        refine g_il zp237 rfl rfl rfl ?_
        refine g_goto zp237 rfl ?_
        refine g_is (ls' := [zR 81, zJ, zI l2, zI l3, zI l4, zI s0, zI 1, zI 1, zJ, zI l9, zI l10, zI l11, zJ]) zp237 rfl rfl (Nat.le_of_ble_eq_true rfl) rfl ?_
        refine g_il zp237 rfl rfl rfl ?_
        refine g_is (ls' := [zR 81, zJ, zI l2, zI l3, zI l4, zI s0, zI 1, zI 1, zI l10, zI l9, zI l10, zI l11, zJ]) zp237 rfl rfl (Nat.le_of_ble_eq_true rfl) rfl ?_
        refine g_inc (ls' := [zR 81, zJ, zI l2, zI l3, zI l4, zI s0, zI 1, zI 1, zI l10, zI (w32 (l9 + 1)), zI l10, zI l11, zJ]) zp237 rfl rfl rfl rfl ?_
        refine g_goto zp237 rfl ?_
        exact g_weak (ls' := [zR 81, zJ, zI l2, zI l3, zI l4, zI s0, zI 1, zI 1, zI l10, zI (w32 (l9 + 1)), zJ, zJ, zJ]) ⟨Or.inr rfl, Or.inr rfl, Or.inr rfl, Or.inr rfl, Or.inr rfl, Or.inr rfl, Or.inr rfl, Or.inr rfl, Or.inr rfl, Or.inr rfl, Or.inl rfl, Or.inl rfl, Or.inr rfl, trivial⟩ h
    · replace h := h.2 c2
      refine g_il zp237 rfl rfl rfl ?_
      refine g_ic zp237 rfl rfl ?_
      refine g_ar (r := w32 (l6 + 1)) zp237 rfl rfl rfl ?_
      refine g_goto zp237 rfl ?_
      refine g_is (ls' := [zR 81, zJ, zI l2, zI l3, zI l4, zI s0, zI (w32 (l6 + 1)), zI l7, zJ, zI l9, zI l10, zI l11, zJ]) zp237 rfl rfl (Nat.le_of_ble_eq_true rfl) rfl ?_
      refine g_il zp237 rfl rfl rfl ?_
      refine g_il zp237 rfl rfl rfl ?_
      refine g_icmp zp237 rfl rfl zc5 (fun c4 => ?_) (fun c4 => ?_)
      · replace h := h.1 c4
        refine g_il zp237 rfl rfl rfl ?_
        refine g_is (ls' := [zR 81, zJ, zI l2, zI l3, zI l4, zI s0, zI (w32 (l6 + 1)), zI l7, zJ, zI l9, zI l10, zI l11, zJ]) zp237 rfl rfl (Nat.le_of_ble_eq_true rfl) rfl ?_
        refine g_il zp237 rfl rfl rfl ?_
        refine g_is (ls' := [zR 81, zJ, zI l2, zI l3, zI l4, zI s0, zI (w32 (l6 + 1)), zI l7, zI l10, zI l9, zI l10, zI l11, zJ]) zp237 rfl rfl (Nat.le_of_ble_eq_true rfl) rfl ?_
        refine g_inc (ls' := [zR 81, zJ, zI l2, zI l3, zI l4, zI s0, zI (w32 (l6 + 1)), zI l7, zI l10, zI (w32 (l9 + 1)), zI l10, zI l11, zJ]) zp237 rfl rfl rfl rfl ?_
        refine g_goto zp237 rfl ?_
        exact g_weak (ls' := [zR 81, zJ, zI l2, zI l3, zI l4, zI s0, zI (w32 (l6 + 1)), zI l7, zI l10, zI (w32 (l9 + 1)), zJ, zJ, zJ]) ⟨Or.inr rfl, Or.inr rfl, Or.inr rfl, Or.inr rfl, Or.inr rfl, Or.inr rfl, Or.inr rfl, Or.inr rfl, Or.inr rfl, Or.inr rfl, Or.inl rfl, Or.inl rfl, Or.inr rfl, trivial⟩ h
      · replace h := h.2 c4
        refine g_il zp237 rfl rfl rfl ?_
        refine g_goto zp237 rfl ?_
        refine g_is (ls' := [zR 81, zJ, zI l2, zI l3, zI l4, zI s0, zI (w32 (l6 + 1)), zI (w32 (l6 + 1)), zJ, zI l9, zI l10, zI l11, zJ]) zp237 rfl rfl (Nat.le_of_ble_eq_true rfl) rfl ?_
        refine g_il zp237 rfl rfl rfl ?_
        refine g_is (ls' := [zR 81, zJ, zI l2, zI l3, zI l4, zI s0, zI (w32 (l6 + 1)), zI (w32 (l6 + 1)), zI l10, zI l9, zI l10, zI l11, zJ]) zp237 rfl rfl (Nat.le_of_ble_eq_true rfl) rfl ?_
        refine g_inc (ls' := [zR 81, zJ, zI l2, zI l3, zI l4, zI s0, zI (w32 (l6 + 1)), zI (w32 (l6 + 1)), zI l10, zI (w32 (l9 + 1)), zI l10, zI l11, zJ]) zp237 rfl rfl rfl rfl ?_
        refine g_goto zp237 rfl ?_
        exact g_weak (ls' := [zR 81, zJ, zI l2, zI l3, zI l4, zI s0, zI (w32 (l6 + 1)), zI (w32 (l6 + 1)), zI l10, zI (w32 (l9 + 1)), zJ, zJ, zJ]) ⟨Or.inr rfl, Or.inr rfl, Or.inr rfl, Or.inr rfl, Or.inr rfl, Or.inr rfl, Or.inr rfl, Or.inr rfl, Or.inr rfl, Or.inr rfl, Or.inl rfl, Or.inl rfl, Or.inr rfl, trivial⟩ h
  · replace h := h.2 c1
    refine g_ic zp237 rfl rfl ?_
    refine g_goto zp237 rfl ?_
    refine g_is (ls' := [zR 81, zJ, zI l2, zI l3, zI l4, zI s0, zI 0, zI l7, zJ, zI l9, zI l10, zI l11, zJ]) zp237 rfl rfl (Nat.le_of_ble_eq_true rfl) rfl ?_
    refine g_il zp237 rfl rfl rfl ?_
    refine g_il zp237 rfl rfl rfl ?_
    refine g_icmp zp237 rfl rfl zc5 (fun c5 => ?_) (fun c5 => ?_)
    · replace h := h.1 c5
      refine g_il zp237 rfl rfl rfl ?_
      refine g_is (ls' := [zR 81, zJ, zI l2, zI l3, zI l4, zI s0, zI 0, zI l7, zJ, zI l9, zI l10, zI l11, zJ]) zp237 rfl rfl (Nat.le_of_ble_eq_true rfl) rfl ?_
      refine g_il zp237 rfl rfl rfl ?_
      refine g_is (ls' := [zR 81, zJ, zI l2, zI l3, zI l4, zI s0, zI 0, zI l7, zI l10, zI l9, zI l10, zI l11, zJ]) zp237 rfl rfl (Nat.le_of_ble_eq_true rfl) rfl ?_
      refine g_inc (ls' := [zR 81, zJ, zI l2, zI l3, zI l4, zI s0, zI 0, zI l7, zI l10, zI (w32 (l9 + 1)), zI l10, zI l11, zJ]) zp237 rfl rfl rfl rfl ?_
      refine g_goto zp237 rfl ?_
      exact g_weak (ls' := [zR 81, zJ, zI l2, zI l3, zI l4, zI s0, zI 0, zI l7, zI l10, zI (w32 (l9 + 1)), zJ, zJ, zJ]) ⟨Or.inr rfl, Or.inr rfl, Or.inr rfl, Or.inr rfl, Or.inr rfl, Or.inr rfl, Or.inr rfl, Or.inr rfl, Or.inr rfl, Or.inr rfl, Or.inl rfl, Or.inl rfl, Or.inr rfl, trivial⟩ h
    · replace h := h.2 c5
      refine g_il zp237 rfl rfl rfl ?_
      refine g_goto zp237 rfl ?_
      refine g_is (ls' := [zR 81, zJ, zI l2, zI l3, zI l4, zI s0, zI 0, zI 0, zJ, zI l9, zI l10, zI l11, zJ]) zp237 rfl rfl (Nat.le_of_ble_eq_true rfl) rfl ?_
      refine g_il zp237 rfl rfl rfl ?_
      refine g_is (ls' := [zR 81, zJ, zI l2, zI l3, zI l4, zI s0, zI 0, zI 0, zI l10, zI l9, zI l10, zI l11, zJ]) zp237 rfl rfl (Nat.le_of_ble_eq_true rfl) rfl ?_
      refine g_inc (ls' := [zR 81, zJ, zI l2, zI l3, zI l4, zI s0, zI 0, zI 0, zI l10, zI (w32 (l9 + 1)), zI l10, zI l11, zJ]) zp237 rfl rfl rfl rfl ?_
      refine g_goto zp237 rfl ?_
      exact g_weak (ls' := [zR 81, zJ, zI l2, zI l3, zI l4, zI s0, zI 0, zI 0, zI l10, zI (w32 (l9 + 1)), zJ, zJ, zJ]) ⟨Or.inr rfl, Or.inr rfl, Or.inr rfl, Or.inr rfl, Or.inr rfl, Or.inr rfl, Or.inr rfl, Or.inr rfl, Or.inr rfl, Or.inr rfl, Or.inl rfl, Or.inl rfl, Or.inr rfl, trivial⟩ h
theorem zp238 : zprog.getD 238 [] = zk238 := rfl
theorem x238_0 {w : zWt} {d : Nat} {H : zHt} {K : Int → zHt → Prop} {l1 : Int}
    (h : (0 ≤ l1 ∧ l1 < 101) ∧ ((H 94 l1) = 0 → K 0 H) ∧ (¬ (H 94 l1) = 0 → (¬ (Int.tmod (H 94 l1) 2) = 1 → zclV w d 188 [zR 81, zI (H 94 l1)] H (fun H4 => zclI w d 190 [zR 81] H4 (fun x7 H6 => K x7 H6))) ∧ ((Int.tmod (H 94 l1) 2) = 1 → K 0 H))) :
    zclI w (d + 1) 238 [zR 81, zI l1] H K := by
  show zgo w (d + 1) 238 0 [zR 81, zI l1] [] H (zQI K)
  refine g_al zp238 rfl rfl rfl (by decide) ?_
  refine g_get (v := zR 94) zp238 rfl rfl rfl ⟨rfl, by decide, (by decide)⟩ rfl ?_
  refine g_il zp238 rfl rfl rfl ?_
  obtain ⟨c1, h⟩ := h
  refine g_ald (v := zI (H 94 l1)) zp238 rfl rfl rfl rfl c1 rfl ?_
  refine g_if zp238 rfl rfl zc0 (fun c2 => ?_) (fun c2 => ?_)
  · replace h := h.1 c2
    refine g_ic zp238 rfl rfl ?_
    exact g_ret zp238 rfl rfl ⟨_, rfl, h⟩
  · replace h := h.2 c2
    refine g_al zp238 rfl rfl rfl (by decide) ?_
    refine g_get (v := zR 94) zp238 rfl rfl rfl ⟨rfl, by decide, (by decide)⟩ rfl ?_
    refine g_il zp238 rfl rfl rfl ?_
    refine g_ald (v := zI (H 94 l1)) zp238 rfl rfl rfl rfl c1 rfl ?_
    refine g_ic zp238 rfl rfl ?_
    refine g_ar (r := Int.tmod (H 94 l1) 2) zp238 rfl rfl (zr_rem (by decide)) ?_
    refine g_ic zp238 rfl rfl ?_
    refine g_icmp zp238 rfl rfl zc1 (fun c3 => ?_) (fun c3 => ?_)
    · replace h := h.1 c3
      refine g_al zp238 rfl rfl rfl (by decide) ?_
      refine g_al zp238 rfl rfl rfl (by decide) ?_
      refine g_get (v := zR 94) zp238 rfl rfl rfl ⟨rfl, by decide, (by decide)⟩ rfl ?_
      refine g_il zp238 rfl rfl rfl ?_
      refine g_ald (v := zI (H 94 l1)) zp238 rfl rfl rfl rfl c1 rfl ?_
      refine g_callV (as := [zR 81, zI (H 94 l1)]) (rest := []) zp238 rfl rfl (Nat.succ_pos _) rfl rfl (Nat.le_of_ble_eq_true rfl) (Nat.le_of_ble_eq_true rfl) rfl rfl h (fun H4 h => ?_)
      refine g_al zp238 rfl rfl rfl (by decide) ?_
      refine g_callI (as := [zR 81]) (rest := []) zp238 rfl rfl (Nat.succ_pos _) rfl rfl (Nat.le_of_ble_eq_true rfl) (Nat.le_of_ble_eq_true rfl) rfl rfl h (fun x7 H6 h => ?_)
      exact g_ret zp238 rfl rfl ⟨_, rfl, h⟩
    · replace h := h.2 c3
      refine g_ic zp238 rfl rfl ?_
      exact g_ret zp238 rfl rfl ⟨_, rfl, h⟩
theorem zp239 : zprog.getD 239 [] = zk239 := rfl
theorem x239_0 {w : zWt} {d : Nat} {H : zHt} {K : Int → zHt → Prop} {l1 : Int} {l2 : Int}
    (h : (l2 < 1 → zgo w (d + 1) 239 11 [zR 81, zI l1, zI l2, zJ, zJ, zJ] [zI 0, zR 81] H (zQI K)) ∧ (1 ≤ l2 → zgo w (d + 1) 239 11 [zR 81, zI l1, zI l2, zJ, zJ, zJ] [zI 1, zR 81] H (zQI K))) :
    zclI w (d + 1) 239 [zR 81, zI l1, zI l2] H K := by
  show zgo w (d + 1) 239 0 [zR 81, zI l1, zI l2, zJ, zJ, zJ] [] H (zQI K)
  refine g_al zp239 rfl rfl rfl (by decide) ?_
  refine g_il zp239 rfl rfl rfl ?_
  refine g_ic zp239 rfl rfl ?_
  refine g_icmp zp239 rfl rfl zc2 (fun c1 => ?_) (fun c1 => ?_)
  · replace h := h.1 c1
    refine g_ic zp239 rfl rfl ?_
    exact g_weak (ls' := [zR 81, zI l1, zI l2, zJ, zJ, zJ]) ⟨Or.inr rfl, Or.inr rfl, Or.inr rfl, Or.inr rfl, Or.inr rfl, Or.inr rfl, trivial⟩ h
  · replace h := h.2 c1
    refine g_ic zp239 rfl rfl ?_
    refine g_goto zp239 rfl ?_
    exact g_weak (ls' := [zR 81, zI l1, zI l2, zJ, zJ, zJ]) ⟨Or.inr rfl, Or.inr rfl, Or.inr rfl, Or.inr rfl, Or.inr rfl, Or.inr rfl, trivial⟩ h
theorem x239_11 {w : zWt} {d : Nat} {H : zHt} {K : Int → zHt → Prop} {l1 : Int} {l2 : Int} {s1 : Int}
    (h : zclI w d 225 [zR 81, zI s1, zI l1] H (fun x2 H1 => (¬ x2 = 0 → (l2 < (H1 81 21) → zclI w d 238 [zR 81, zI (w32 (l2 - 1))] H1 (fun x6 H5 => zclI w d 238 [zR 81, zI l2] H5 (fun x8 H7 => (x6 = 0 → K 0 H7) ∧ (¬ x6 = 0 → (x8 = 0 → K 0 H7) ∧ (¬ x8 = 0 → (¬ x6 = x8 → ((H7 81 9) = (H5 81 9) → K 2 H7) ∧ (¬ (H7 81 9) = (H5 81 9) → K 1 H7)) ∧ (x6 = x8 → K 0 H7)))))) ∧ ((H1 81 21) ≤ l2 → zclI w d 178 [zR 81, zI 5] H1 (fun x14 H13 => K x14 H13))) ∧ (x2 = 0 → K (-1) H1))) :
    zgo w (d + 1) 239 11 [zR 81, zI l1, zI l2, zJ, zJ, zJ] [zI s1, zR 81] H (zQI K) := by
  refine g_il zp239 rfl rfl rfl ?_
  refine g_callI (as := [zR 81, zI s1, zI l1]) (rest := []) zp239 rfl rfl (Nat.succ_pos _) rfl rfl (Nat.le_of_ble_eq_true rfl) (Nat.le_of_ble_eq_true rfl) rfl rfl h (fun x2 H1 h => ?_)
  refine g_if zp239 rfl rfl zc1 (fun c3 => ?_) (fun c3 => ?_)
  · replace h := h.1 c3
    refine g_il zp239 rfl rfl rfl ?_
    refine g_al zp239 rfl rfl rfl (by decide) ?_
    refine g_get (v := zI (H1 81 21)) zp239 rfl rfl rfl ⟨rfl, by decide, (by decide)⟩ rfl ?_
    refine g_icmp zp239 rfl rfl zc2 (fun c4 => ?_) (fun c4 => ?_)
    · replace h := h.1 c4
      refine g_al zp239 rfl rfl rfl (by decide) ?_
      refine g_il zp239 rfl rfl rfl ?_
      refine g_ic zp239 rfl rfl ?_
      refine g_ar (r := w32 (l2 - 1)) zp239 rfl rfl rfl ?_
      refine g_callI (as := [zR 81, zI (w32 (l2 - 1))]) (rest := []) zp239 rfl rfl (Nat.succ_pos _) rfl rfl (Nat.le_of_ble_eq_true rfl) (Nat.le_of_ble_eq_true rfl) rfl rfl h (fun x6 H5 h => ?_)
      refine g_is (ls' := [zR 81, zI l1, zI l2, zI x6, zJ, zJ]) zp239 rfl rfl (Nat.le_of_ble_eq_true rfl) rfl ?_
      refine g_al zp239 rfl rfl rfl (by decide) ?_
      refine g_get (v := zI (H5 81 9)) zp239 rfl rfl rfl ⟨rfl, by decide, (by decide)⟩ rfl ?_
      refine g_is (ls' := [zR 81, zI l1, zI l2, zI x6, zI (H5 81 9), zJ]) zp239 rfl rfl (Nat.le_of_ble_eq_true rfl) rfl ?_
      refine g_al zp239 rfl rfl rfl (by decide) ?_
      refine g_il zp239 rfl rfl rfl ?_
      refine g_callI (as := [zR 81, zI l2]) (rest := []) zp239 rfl rfl (Nat.succ_pos _) rfl rfl (Nat.le_of_ble_eq_true rfl) (Nat.le_of_ble_eq_true rfl) rfl rfl h (fun x8 H7 h => ?_)
      refine g_is (ls' := [zR 81, zI l1, zI l2, zI x6, zI (H5 81 9), zI x8]) zp239 rfl rfl (Nat.le_of_ble_eq_true rfl) rfl ?_
      refine g_il zp239 rfl rfl rfl ?_
      refine g_if zp239 rfl rfl zc0 (fun c9 => ?_) (fun c9 => ?_)
      · replace h := h.1 c9
        refine g_ic zp239 rfl rfl ?_
        refine g_goto zp239 rfl ?_
        exact g_ret zp239 rfl rfl ⟨_, rfl, h⟩
      · replace h := h.2 c9
        refine g_il zp239 rfl rfl rfl ?_
        refine g_if zp239 rfl rfl zc0 (fun c10 => ?_) (fun c10 => ?_)
        · replace h := h.1 c10
          refine g_ic zp239 rfl rfl ?_
          refine g_goto zp239 rfl ?_
          exact g_ret zp239 rfl rfl ⟨_, rfl, h⟩
        · replace h := h.2 c10
          refine g_il zp239 rfl rfl rfl ?_
          refine g_il zp239 rfl rfl rfl ?_
          refine g_icmp zp239 rfl rfl zc1 (fun c11 => ?_) (fun c11 => ?_)
          · replace h := h.1 c11
            refine g_al zp239 rfl rfl rfl (by decide) ?_
            refine g_get (v := zI (H7 81 9)) zp239 rfl rfl rfl ⟨rfl, by decide, (by decide)⟩ rfl ?_
            refine g_il zp239 rfl rfl rfl ?_
            refine g_icmp zp239 rfl rfl zc0 (fun c12 => ?_) (fun c12 => ?_)
            · replace h := h.1 c12
              refine g_ic zp239 rfl rfl ?_
              exact g_ret zp239 rfl rfl ⟨_, rfl, h⟩
            · replace h := h.2 c12
              refine g_ic zp239 rfl rfl ?_
              refine g_goto zp239 rfl ?_
              exact g_ret zp239 rfl rfl ⟨_, rfl, h⟩
          · replace h := h.2 c11
            refine g_ic zp239 rfl rfl ?_
            refine g_goto zp239 rfl ?_
            exact g_ret zp239 rfl rfl ⟨_, rfl, h⟩
    · replace h := h.2 c4
      refine g_al zp239 rfl rfl rfl (by decide) ?_
      refine g_ic zp239 rfl rfl ?_
      refine g_callI (as := [zR 81, zI 5]) (rest := []) zp239 rfl rfl (Nat.succ_pos _) rfl rfl (Nat.le_of_ble_eq_true rfl) (Nat.le_of_ble_eq_true rfl) rfl rfl h (fun x14 H13 h => ?_)
      exact g_ret zp239 rfl rfl ⟨_, rfl, h⟩
  · replace h := h.2 c3
    refine g_ic zp239 rfl rfl ?_
    exact g_ret zp239 rfl rfl ⟨_, rfl, h⟩
theorem zp240 : zprog.getD 240 [] = zk240 := rfl
theorem x240_0 {w : zWt} {d : Nat} {H : zHt} {K : Int → zHt → Prop} {l1 : Int} {l2 : Int}
    (h : zclI w d 173 [zL l2, zL 0, zL 2] H (fun x2 H1 => zclI w d 225 [zR 81, zI x2, zI l1] H1 (fun x4 H3 => (¬ x4 = 0 → zgo w (d + 1) 240 21 [zR 81, zJ, zI l2, zI 0, zJ, zJ, zJ, zJ, zJ] [] H3 (zQI K)) ∧ (x4 = 0 → K (-1) H3)))) :
    zclI w (d + 1) 240 [zR 81, zI l1, zI l2] H K := by
  show zgo w (d + 1) 240 0 [zR 81, zI l1, zI l2, zJ, zJ, zJ, zJ, zJ, zJ] [] H (zQI K)
  refine g_al zp240 rfl rfl rfl (by decide) ?_
  refine g_il zp240 rfl rfl rfl ?_
  refine g_i2l zp240 rfl rfl ?_
  refine g_lc zp240 rfl rfl ?_
  refine g_lc zp240 rfl rfl ?_
  refine g_callI (as := [zL l2, zL 0, zL 2]) (rest := [zR 81]) zp240 rfl rfl (Nat.succ_pos _) rfl rfl (Nat.le_of_ble_eq_true rfl) (Nat.le_of_ble_eq_true rfl) rfl rfl h (fun x2 H1 h => ?_)
  refine g_il zp240 rfl rfl rfl ?_
  refine g_callI (as := [zR 81, zI x2, zI l1]) (rest := []) zp240 rfl rfl (Nat.succ_pos _) rfl rfl (Nat.le_of_ble_eq_true rfl) (Nat.le_of_ble_eq_true rfl) rfl rfl h (fun x4 H3 h => ?_)
  refine g_if zp240 rfl rfl zc1 (fun c5 => ?_) (fun c5 => ?_)
  · replace h := h.1 c5
    refine g_ic zp240 rfl rfl ?_
    refine g_is (ls' := [zR 81, zI l1, zI l2, zI 0, zJ, zJ, zJ, zJ, zJ]) zp240 rfl rfl (Nat.le_of_ble_eq_true rfl) rfl ?_
    exact g_weak (ls' := [zR 81, zJ, zI l2, zI 0, zJ, zJ, zJ, zJ, zJ]) ⟨Or.inr rfl, Or.inl rfl, Or.inr rfl, Or.inr rfl, Or.inr rfl, Or.inr rfl, Or.inr rfl, Or.inr rfl, Or.inr rfl, trivial⟩ h
  · replace h := h.2 c5
    refine g_ic zp240 rfl rfl ?_
    exact g_ret zp240 rfl rfl ⟨_, rfl, h⟩
theorem x240_21 {w : zWt} {d : Nat} {H : zHt} {K : Int → zHt → Prop} {l2 : Int} {l3 : Int}
    (h : ((H 81 21) ≤ l3 → zgo w (d + 1) 240 57 [zR 81, zJ, zI l2, zI 0, zI 0, zI 0, zI 0, zJ, zJ] [] H (zQI K)) ∧ (l3 < (H 81 21) → zclI w d 238 [zR 81, zI l3] H (fun x3 H2 => (0 ≤ l3 ∧ l3 < 101) ∧ zgo w (d + 1) 240 21 [zR 81, zJ, zI l2, zI (w32 (l3 + 1)), zJ, zJ, zJ, zJ, zJ] [] (zup H2 96 l3 x3) (zQI K)))) :
    zgo w (d + 1) 240 21 [zR 81, zJ, zI l2, zI l3, zJ, zJ, zJ, zJ, zJ] [] H (zQI K) := by
  refine g_il zp240 rfl rfl rfl ?_
  refine g_al zp240 rfl rfl rfl (by decide) ?_
  refine g_get (v := zI (H 81 21)) zp240 rfl rfl rfl ⟨rfl, by decide, (by decide)⟩ rfl ?_
  refine g_icmp zp240 rfl rfl zc3 (fun c1 => ?_) (fun c1 => ?_)
  · replace h := h.1 c1
    refine g_ic zp240 rfl rfl ?_
    refine g_is (ls' := [zR 81, zJ, zI l2, zI 0, zJ, zJ, zJ, zJ, zJ]) zp240 rfl rfl (Nat.le_of_ble_eq_true rfl) rfl ?_
    refine g_ic zp240 rfl rfl ?_
    refine g_is (ls' := [zR 81, zJ, zI l2, zI 0, zI 0, zJ, zJ, zJ, zJ]) zp240 rfl rfl (Nat.le_of_ble_eq_true rfl) rfl ?_
    refine g_ic zp240 rfl rfl ?_
    refine g_is (ls' := [zR 81, zJ, zI l2, zI 0, zI 0, zI 0, zJ, zJ, zJ]) zp240 rfl rfl (Nat.le_of_ble_eq_true rfl) rfl ?_
    refine g_ic zp240 rfl rfl ?_
    refine g_is (ls' := [zR 81, zJ, zI l2, zI 0, zI 0, zI 0, zI 0, zJ, zJ]) zp240 rfl rfl (Nat.le_of_ble_eq_true rfl) rfl ?_
    exact g_weak (ls' := [zR 81, zJ, zI l2, zI 0, zI 0, zI 0, zI 0, zJ, zJ]) ⟨Or.inr rfl, Or.inr rfl, Or.inr rfl, Or.inr rfl, Or.inr rfl, Or.inr rfl, Or.inr rfl, Or.inr rfl, Or.inr rfl, trivial⟩ h
  · replace h := h.2 c1
    refine g_al zp240 rfl rfl rfl (by decide) ?_
    refine g_get (v := zR 96) zp240 rfl rfl rfl ⟨rfl, by decide, (by decide)⟩ rfl ?_
    refine g_il zp240 rfl rfl rfl ?_
    refine g_al zp240 rfl rfl rfl (by decide) ?_
    refine g_il zp240 rfl rfl rfl ?_
    refine g_callI (as := [zR 81, zI l3]) (rest := [zI l3, zR 96]) zp240 rfl rfl (Nat.succ_pos _) rfl rfl (Nat.le_of_ble_eq_true rfl) (Nat.le_of_ble_eq_true rfl) rfl rfl h (fun x3 H2 h => ?_)
    obtain ⟨c4, h⟩ := h
    refine g_iast zp240 rfl rfl rfl (by decide) rfl c4 ?_
    refine g_inc (ls' := [zR 81, zJ, zI l2, zI (w32 (l3 + 1)), zJ, zJ, zJ, zJ, zJ]) zp240 rfl rfl rfl rfl ?_
    refine g_goto zp240 rfl ?_
    exact g_weak (ls' := [zR 81, zJ, zI l2, zI (w32 (l3 + 1)), zJ, zJ, zJ, zJ, zJ]) ⟨Or.inr rfl, Or.inr rfl, Or.inr rfl, Or.inr rfl, Or.inr rfl, Or.inr rfl, Or.inr rfl, Or.inr rfl, Or.inr rfl, trivial⟩ h
theorem x240_57 {w : zWt} {d : Nat} {H : zHt} {K : Int → zHt → Prop} {l2 : Int} {l3 : Int} {l4 : Int} {l5 : Int} {l6 : Int}
    (h : ((H 81 21) ≤ l6 → (¬ l2 = 0 → (¬ l3 = 0 → (¬ l2 = 1 → K l4 H) ∧ (l2 = 1 → K l5 H)) ∧ (l3 = 0 → zclI w d 178 [zR 81, zI 5] H (fun x6 H5 => K x6 H5))) ∧ (l2 = 0 → K l3 H)) ∧ (l6 < (H 81 21) → (0 ≤ l6 ∧ l6 < 101) ∧ ((H 96 l6) = 0 → zgo w (d + 1) 240 57 [zR 81, zJ, zI l2, zI l3, zI l4, zI l5, zI (w32 (l6 + 1)), zJ, zJ] [] H (zQI K)) ∧ (¬ (H 96 l6) = 0 → zclI w d 241 [zR 81, zI l6] H (fun x10 H9 => (x10 = 0 → zclI w d 242 [zR 81, zI (H 96 l6)] H9 (fun x13 H12 => (x13 < l4 → zgo w (d + 1) 240 57 [zR 81, zJ, zI l2, zI (w32 (l3 + 1)), zI l4, zI l5, zI (w32 (l6 + 1)), zJ, zJ] [] H12 (zQI K)) ∧ (l4 ≤ x13 → (¬ x13 = l4 → zgo w (d + 1) 240 57 [zR 81, zJ, zI l2, zI (w32 (l3 + 1)), zI x13, zI (H 96 l6), zI (w32 (l6 + 1)), zJ, zJ] [] H12 (zQI K)) ∧ (x13 = l4 → ((H 96 l6) ≤ l5 → zgo w (d + 1) 240 57 [zR 81, zJ, zI l2, zI (w32 (l3 + 1)), zI x13, zI (H 96 l6), zI (w32 (l6 + 1)), zJ, zJ] [] H12 (zQI K)) ∧ (l5 < (H 96 l6) → zgo w (d + 1) 240 57 [zR 81, zJ, zI l2, zI (w32 (l3 + 1)), zI l4, zI l5, zI (w32 (l6 + 1)), zJ, zJ] [] H12 (zQI K)))))) ∧ (¬ x10 = 0 → zgo w (d + 1) 240 57 [zR 81, zJ, zI l2, zI l3, zI l4, zI l5, zI (w32 (l6 + 1)), zJ, zJ] [] H9 (zQI K)))))) :
    zgo w (d + 1) 240 57 [zR 81, zJ, zI l2, zI l3, zI l4, zI l5, zI l6, zJ, zJ] [] H (zQI K) := by
  refine g_il zp240 rfl rfl rfl ?_
  refine g_al zp240 rfl rfl rfl (by decide) ?_
  refine g_get (v := zI (H 81 21)) zp240 rfl rfl rfl ⟨rfl, by decide, (by decide)⟩ rfl ?_
  refine g_icmp zp240 rfl rfl zc3 (fun c1 => ?_) (fun c1 => ?_)
  · replace h := h.1 c1
    refine g_il zp240 rfl rfl rfl ?_
    refine g_if zp240 rfl rfl zc1 (fun c2 => ?_) (fun c2 => ?_)
    · replace h := h.1 c2
      refine g_il zp240 rfl rfl rfl ?_
      refine g_if zp240 rfl rfl zc1 (fun c3 => ?_) (fun c3 => ?_)
      · replace h := h.1 c3
        refine g_il zp240 rfl rfl rfl ?_
        refine g_ic zp240 rfl rfl ?_
        refine g_icmp zp240 rfl rfl zc1 (fun c4 => ?_) (fun c4 => ?_)
        · replace h := h.1 c4
          refine g_il zp240 rfl rfl rfl ?_
          exact g_ret zp240 rfl rfl ⟨_, rfl, h⟩
        · replace h := h.2 c4
          refine g_il zp240 rfl rfl rfl ?_
          refine g_goto zp240 rfl ?_
          exact g_ret zp240 rfl rfl ⟨_, rfl, h⟩
      · replace h := h.2 c3
        refine g_al zp240 rfl rfl rfl (by decide) ?_
        refine g_ic zp240 rfl rfl ?_
        refine g_callI (as := [zR 81, zI 5]) (rest := []) zp240 rfl rfl (Nat.succ_pos _) rfl rfl (Nat.le_of_ble_eq_true rfl) (Nat.le_of_ble_eq_true rfl) rfl rfl h (fun x6 H5 h => ?_)
        refine g_goto zp240 rfl ?_
        exact g_ret zp240 rfl rfl ⟨_, rfl, h⟩
    · replace h := h.2 c2
      refine g_il zp240 rfl rfl rfl ?_
      refine g_goto zp240 rfl ?_
      exact g_ret zp240 rfl rfl ⟨_, rfl, h⟩
  · replace h := h.2 c1
    refine g_al zp240 rfl rfl rfl (by decide) ?_
    refine g_get (v := zR 96) zp240 rfl rfl rfl ⟨rfl, by decide, (by decide)⟩ rfl ?_
    refine g_il zp240 rfl rfl rfl ?_
    obtain ⟨c7, h⟩ := h
    refine g_ald (v := zI (H 96 l6)) zp240 rfl rfl rfl rfl c7 rfl ?_
    refine g_is (ls' := [zR 81, zJ, zI l2, zI l3, zI l4, zI l5, zI l6, zI (H 96 l6), zJ]) zp240 rfl rfl (Nat.le_of_ble_eq_true rfl) rfl ?_
    refine g_il zp240 rfl rfl rfl ?_
    refine g_if zp240 rfl rfl zc0 (fun c8 => ?_) (fun c8 => ?_)
    · replace h := h.1 c8
      refine g_inc (ls' := [zR 81, zJ, zI l2, zI l3, zI l4, zI l5, zI (w32 (l6 + 1)), zI (H 96 l6), zJ]) zp240 rfl rfl rfl rfl ?_
      refine g_goto zp240 rfl ?_
      exact g_weak (ls' := [zR 81, zJ, zI l2, zI l3, zI l4, zI l5, zI (w32 (l6 + 1)), zJ, zJ]) ⟨Or.inr rfl, Or.inr rfl, Or.inr rfl, Or.inr rfl, Or.inr rfl, Or.inr rfl, Or.inr rfl, Or.inl rfl, Or.inr rfl, trivial⟩ h
    · replace h := h.2 c8
      refine g_al zp240 rfl rfl rfl (by decide) ?_
      refine g_il zp240 rfl rfl rfl ?_
      refine g_callI (as := [zR 81, zI l6]) (rest := []) zp240 rfl rfl (Nat.succ_pos _) rfl rfl (Nat.le_of_ble_eq_true rfl) (Nat.le_of_ble_eq_true rfl) rfl rfl h (fun x10 H9 h => ?_)
      refine g_if zp240 rfl rfl zc0 (fun c11 => ?_) (fun c11 => ?_)
      · replace h := h.1 c11
        refine g_al zp240 rfl rfl rfl (by decide) ?_
        refine g_il zp240 rfl rfl rfl ?_
        refine g_callI (as := [zR 81, zI (H 96 l6)]) (rest := []) zp240 rfl rfl (Nat.succ_pos _) rfl rfl (Nat.le_of_ble_eq_true rfl) (Nat.le_of_ble_eq_true rfl) rfl rfl h (fun x13 H12 h => ?_)
        refine g_is (ls' := [zR 81, zJ, zI l2, zI l3, zI l4, zI l5, zI l6, zI (H 96 l6), zI x13]) zp240 rfl rfl (Nat.le_of_ble_eq_true rfl) rfl ?_
        refine g_inc (ls' := [zR 81, zJ, zI l2, zI (w32 (l3 + 1)), zI l4, zI l5, zI l6, zI (H 96 l6), zI x13]) zp240 rfl rfl rfl rfl ?_
        refine g_il zp240 rfl rfl rfl ?_
        refine g_il zp240 rfl rfl rfl ?_
        refine g_icmp zp240 rfl rfl zc2 (fun c14 => ?_) (fun c14 => ?_)
        · replace h := h.1 c14
          refine g_inc (ls' := [zR 81, zJ, zI l2, zI (w32 (l3 + 1)), zI l4, zI l5, zI (w32 (l6 + 1)), zI (H 96 l6), zI x13]) zp240 rfl rfl rfl rfl ?_
          refine g_goto zp240 rfl ?_
          exact g_weak (ls' := [zR 81, zJ, zI l2, zI (w32 (l3 + 1)), zI l4, zI l5, zI (w32 (l6 + 1)), zJ, zJ]) ⟨Or.inr rfl, Or.inr rfl, Or.inr rfl, Or.inr rfl, Or.inr rfl, Or.inr rfl, Or.inr rfl, Or.inl rfl, Or.inl rfl, trivial⟩ h
        · replace h := h.2 c14
          refine g_il zp240 rfl rfl rfl ?_
          refine g_il zp240 rfl rfl rfl ?_
          refine g_icmp zp240 rfl rfl zc1 (fun c15 => ?_) (fun c15 => ?_)
          · replace h := h.1 c15
            refine g_il zp240 rfl rfl rfl ?_
            refine g_is (ls' := [zR 81, zJ, zI l2, zI (w32 (l3 + 1)), zI x13, zI l5, zI l6, zI (H 96 l6), zI x13]) zp240 rfl rfl (Nat.le_of_ble_eq_true rfl) rfl ?_
            refine g_il zp240 rfl rfl rfl ?_
            refine g_is (ls' := [zR 81, zJ, zI l2, zI (w32 (l3 + 1)), zI x13, zI (H 96 l6), zI l6, zI (H 96 l6), zI x13]) zp240 rfl rfl (Nat.le_of_ble_eq_true rfl) rfl ?_
            refine g_inc (ls' := [zR 81, zJ, zI l2, zI (w32 (l3 + 1)), zI x13, zI (H 96 l6), zI (w32 (l6 + 1)), zI (H 96 l6), zI x13]) zp240 rfl rfl rfl rfl ?_
            refine g_goto zp240 rfl ?_
            exact g_weak (ls' := [zR 81, zJ, zI l2, zI (w32 (l3 + 1)), zI x13, zI (H 96 l6), zI (w32 (l6 + 1)), zJ, zJ]) ⟨Or.inr rfl, Or.inr rfl, Or.inr rfl, Or.inr rfl, Or.inr rfl, Or.inr rfl, Or.inr rfl, Or.inl rfl, Or.inl rfl, trivial⟩ h
          · replace h := h.2 c15
            refine g_il zp240 rfl rfl rfl ?_
            refine g_il zp240 rfl rfl rfl ?_
            refine g_icmp zp240 rfl rfl zc5 (fun c16 => ?_) (fun c16 => ?_)
            · replace h := h.1 c16
              refine g_il zp240 rfl rfl rfl ?_
              refine g_is (ls' := [zR 81, zJ, zI l2, zI (w32 (l3 + 1)), zI x13, zI l5, zI l6, zI (H 96 l6), zI x13]) zp240 rfl rfl (Nat.le_of_ble_eq_true rfl) rfl ?_
              refine g_il zp240 rfl rfl rfl ?_
              refine g_is (ls' := [zR 81, zJ, zI l2, zI (w32 (l3 + 1)), zI x13, zI (H 96 l6), zI l6, zI (H 96 l6), zI x13]) zp240 rfl rfl (Nat.le_of_ble_eq_true rfl) rfl ?_
              refine g_inc (ls' := [zR 81, zJ, zI l2, zI (w32 (l3 + 1)), zI x13, zI (H 96 l6), zI (w32 (l6 + 1)), zI (H 96 l6), zI x13]) zp240 rfl rfl rfl rfl ?_
              refine g_goto zp240 rfl ?_
              exact g_weak (ls' := [zR 81, zJ, zI l2, zI (w32 (l3 + 1)), zI x13, zI (H 96 l6), zI (w32 (l6 + 1)), zJ, zJ]) ⟨Or.inr rfl, Or.inr rfl, Or.inr rfl, Or.inr rfl, Or.inr rfl, Or.inr rfl, Or.inr rfl, Or.inl rfl, Or.inl rfl, trivial⟩ h
            · replace h := h.2 c16
              refine g_goto zp240 rfl ?_
              refine g_inc (ls' := [zR 81, zJ, zI l2, zI (w32 (l3 + 1)), zI l4, zI l5, zI (w32 (l6 + 1)), zI (H 96 l6), zI x13]) zp240 rfl rfl rfl rfl ?_
              refine g_goto zp240 rfl ?_
              exact g_weak (ls' := [zR 81, zJ, zI l2, zI (w32 (l3 + 1)), zI l4, zI l5, zI (w32 (l6 + 1)), zJ, zJ]) ⟨Or.inr rfl, Or.inr rfl, Or.inr rfl, Or.inr rfl, Or.inr rfl, Or.inr rfl, Or.inr rfl, Or.inl rfl, Or.inl rfl, trivial⟩ h
      · replace h := h.2 c11
        refine g_goto zp240 rfl ?_
        refine g_inc (ls' := [zR 81, zJ, zI l2, zI l3, zI l4, zI l5, zI (w32 (l6 + 1)), zI (H 96 l6), zJ]) zp240 rfl rfl rfl rfl ?_
        refine g_goto zp240 rfl ?_
        exact g_weak (ls' := [zR 81, zJ, zI l2, zI l3, zI l4, zI l5, zI (w32 (l6 + 1)), zJ, zJ]) ⟨Or.inr rfl, Or.inr rfl, Or.inr rfl, Or.inr rfl, Or.inr rfl, Or.inr rfl, Or.inr rfl, Or.inl rfl, Or.inr rfl, trivial⟩ h
theorem zp241 : zprog.getD 241 [] = zk241 := rfl
theorem x241_0 {w : zWt} {d : Nat} {H : zHt} {K : Int → zHt → Prop} {l1 : Int}
    (h : zgo w d 241 2 [zR 81, zI l1, zI 0] [] H (zQI K)) :
    zclI w d 241 [zR 81, zI l1] H K := by
  show zgo w d 241 0 [zR 81, zI l1, zJ] [] H (zQI K)
  refine g_ic zp241 rfl rfl ?_
  refine g_is (ls' := [zR 81, zI l1, zI 0]) zp241 rfl rfl (Nat.le_of_ble_eq_true rfl) rfl ?_
  exact g_weak (ls' := [zR 81, zI l1, zI 0]) ⟨Or.inr rfl, Or.inr rfl, Or.inr rfl, trivial⟩ h
theorem x241_2 {w : zWt} {d : Nat} {H : zHt} {K : Int → zHt → Prop} {l1 : Int} {l2 : Int}
    (h : (l1 ≤ l2 → K 0 H) ∧ (l2 < l1 → (0 ≤ l2 ∧ l2 < 101) ∧ (0 ≤ l1 ∧ l1 < 101) ∧ (¬ (H 96 l2) = (H 96 l1) → zgo w d 241 2 [zR 81, zI l1, zI (w32 (l2 + 1))] [] H (zQI K)) ∧ ((H 96 l2) = (H 96 l1) → K 1 H))) :
    zgo w d 241 2 [zR 81, zI l1, zI l2] [] H (zQI K) := by
  refine g_il zp241 rfl rfl rfl ?_
  refine g_il zp241 rfl rfl rfl ?_
  refine g_icmp zp241 rfl rfl zc3 (fun c1 => ?_) (fun c1 => ?_)
  · replace h := h.1 c1
    refine g_ic zp241 rfl rfl ?_
    exact g_ret zp241 rfl (zret_b (by decide)) ⟨_, rfl, h⟩
  · replace h := h.2 c1
    refine g_al zp241 rfl rfl rfl (by decide) ?_
    refine g_get (v := zR 96) zp241 rfl rfl rfl ⟨rfl, by decide, (by decide)⟩ rfl ?_
    refine g_il zp241 rfl rfl rfl ?_
    obtain ⟨c2, h⟩ := h
    refine g_ald (v := zI (H 96 l2)) zp241 rfl rfl rfl rfl c2 rfl ?_
    refine g_al zp241 rfl rfl rfl (by decide) ?_
    refine g_get (v := zR 96) zp241 rfl rfl rfl ⟨rfl, by decide, (by decide)⟩ rfl ?_
    refine g_il zp241 rfl rfl rfl ?_
    obtain ⟨c3, h⟩ := h
    refine g_ald (v := zI (H 96 l1)) zp241 rfl rfl rfl rfl c3 rfl ?_
    refine g_icmp zp241 rfl rfl zc1 (fun c4 => ?_) (fun c4 => ?_)
    · replace h := h.1 c4
      refine g_inc (ls' := [zR 81, zI l1, zI (w32 (l2 + 1))]) zp241 rfl rfl rfl rfl ?_
      refine g_goto zp241 rfl ?_
      exact g_weak (ls' := [zR 81, zI l1, zI (w32 (l2 + 1))]) ⟨Or.inr rfl, Or.inr rfl, Or.inr rfl, trivial⟩ h
    · replace h := h.2 c4
      refine g_ic zp241 rfl rfl ?_
      exact g_ret zp241 rfl (zret_b (by decide)) ⟨_, rfl, h⟩
theorem zp242 : zprog.getD 242 [] = zk242 := rfl
theorem x242_0 {w : zWt} {d : Nat} {H : zHt} {K : Int → zHt → Prop} {l1 : Int}
    (h : zgo w d 242 4 [zR 81, zI l1, zI 0, zI 0] [] H (zQI K)) :
    zclI w d 242 [zR 81, zI l1] H K := by
  show zgo w d 242 0 [zR 81, zI l1, zJ, zJ] [] H (zQI K)
  refine g_ic zp242 rfl rfl ?_
  refine g_is (ls' := [zR 81, zI l1, zI 0, zJ]) zp242 rfl rfl (Nat.le_of_ble_eq_true rfl) rfl ?_
  refine g_ic zp242 rfl rfl ?_
  refine g_is (ls' := [zR 81, zI l1, zI 0, zI 0]) zp242 rfl rfl (Nat.le_of_ble_eq_true rfl) rfl ?_
  exact g_weak (ls' := [zR 81, zI l1, zI 0, zI 0]) ⟨Or.inr rfl, Or.inr rfl, Or.inr rfl, Or.inr rfl, trivial⟩ h
theorem x242_4 {w : zWt} {d : Nat} {H : zHt} {K : Int → zHt → Prop} {l1 : Int} {l2 : Int} {l3 : Int}
    (h : ((H 81 21) ≤ l3 → K l2 H) ∧ (l3 < (H 81 21) → (0 ≤ l3 ∧ l3 < 101) ∧ (¬ (H 96 l3) = l1 → zgo w d 242 4 [zR 81, zI l1, zI (w32 (l2 + 0)), zI (w32 (l3 + 1))] [] H (zQI K)) ∧ ((H 96 l3) = l1 → zgo w d 242 4 [zR 81, zI l1, zI (w32 (l2 + 1)), zI (w32 (l3 + 1))] [] H (zQI K)))) :
    zgo w d 242 4 [zR 81, zI l1, zI l2, zI l3] [] H (zQI K) := by
  refine g_il zp242 rfl rfl rfl ?_
  refine g_al zp242 rfl rfl rfl (by decide) ?_
  refine g_get (v := zI (H 81 21)) zp242 rfl rfl rfl ⟨rfl, by decide, (by decide)⟩ rfl ?_
  refine g_icmp zp242 rfl rfl zc3 (fun c1 => ?_) (fun c1 => ?_)
  · replace h := h.1 c1
    refine g_il zp242 rfl rfl rfl ?_
    exact g_ret zp242 rfl rfl ⟨_, rfl, h⟩
  · replace h := h.2 c1
    refine g_il zp242 rfl rfl rfl ?_
    refine g_al zp242 rfl rfl rfl (by decide) ?_
    refine g_get (v := zR 96) zp242 rfl rfl rfl ⟨rfl, by decide, (by decide)⟩ rfl ?_
    refine g_il zp242 rfl rfl rfl ?_
    obtain ⟨c2, h⟩ := h
    refine g_ald (v := zI (H 96 l3)) zp242 rfl rfl rfl rfl c2 rfl ?_
    refine g_il zp242 rfl rfl rfl ?_
    refine g_icmp zp242 rfl rfl zc1 (fun c3 => ?_) (fun c3 => ?_)
    · replace h := h.1 c3
      refine g_ic zp242 rfl rfl ?_
      refine g_ar (r := w32 (l2 + 0)) zp242 rfl rfl rfl ?_
      refine g_is (ls' := [zR 81, zI l1, zI (w32 (l2 + 0)), zI l3]) zp242 rfl rfl (Nat.le_of_ble_eq_true rfl) rfl ?_
      refine g_inc (ls' := [zR 81, zI l1, zI (w32 (l2 + 0)), zI (w32 (l3 + 1))]) zp242 rfl rfl rfl rfl ?_
      refine g_goto zp242 rfl ?_
      exact g_weak (ls' := [zR 81, zI l1, zI (w32 (l2 + 0)), zI (w32 (l3 + 1))]) ⟨Or.inr rfl, Or.inr rfl, Or.inr rfl, Or.inr rfl, trivial⟩ h
    · replace h := h.2 c3
      refine g_ic zp242 rfl rfl ?_
      refine g_goto zp242 rfl ?_
      refine g_ar (r := w32 (l2 + 1)) zp242 rfl rfl rfl ?_
      refine g_is (ls' := [zR 81, zI l1, zI (w32 (l2 + 1)), zI l3]) zp242 rfl rfl (Nat.le_of_ble_eq_true rfl) rfl ?_
      refine g_inc (ls' := [zR 81, zI l1, zI (w32 (l2 + 1)), zI (w32 (l3 + 1))]) zp242 rfl rfl rfl rfl ?_
      refine g_goto zp242 rfl ?_
      exact g_weak (ls' := [zR 81, zI l1, zI (w32 (l2 + 1)), zI (w32 (l3 + 1))]) ⟨Or.inr rfl, Or.inr rfl, Or.inr rfl, Or.inr rfl, trivial⟩ h
