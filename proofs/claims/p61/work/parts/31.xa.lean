/-! segments of the methods that make new cells (by wip/p61/gen5.py) -/
section ZL12
variable {w : zWt} {d y pc q : Nat} {ls ls' st : List zV} {H : zHt} {Q : zV → zWt → zHt → Prop} {l : List (Option zC)} {n a b : Nat} {k : Int} {e : List Int}
theorem ga_ldc12 {v : zV} (hp : zprog.getD y [] = l) (hf : l.getD pc none = some (32, n, a, b, k, e)) (hq : pc + n = q) (ha : a < 12) (hv : (if a < 8 then zR (2 + a) else zR (10 + a)) = v) (K : zga w d y q ls (v :: st) H Q) : zga w d y pc ls st H Q := by
  subst hq
  refine ga_step hp hf rfl rfl ?_ K
  rw [zstep_eq (f := zs_ldcs) rfl]
  simp only [zs_ldcs]
  by_cases h8 : a < 8
  · rw [if_pos h8] at hv
    rw [if_pos h8, ← hv]
  · rw [if_neg h8] at hv
    rw [if_neg h8, if_pos ha, ← hv]
theorem ga_aldB {o j : Int} (hp : zprog.getD y [] = l) (hf : l.getD pc none = some (21, n, 2, b, k, e)) (hq : pc + n = q) (hs : zIsB w o) (hj : 0 ≤ j ∧ j < (zsz w o : Int)) (K : zga w d y q ls (zI (zM w H o j) :: st) H Q) : zga w d y pc ls (zI j :: zR o :: st) H Q := by
  rcases hs with h | h
  · exact ga_ald hp hf hq h.sh rfl hj rfl K
  · exact ga_ald hp hf hq (c := 91) h.2 rfl hj rfl K
theorem zrecv_sp {b t : Nat} {s : Int} {as : List zV} (h : zSh w s 7 4) (h9 : (zin t 2 == 90) = true := by rfl) : zrecv (zS w H) b t (zR s :: as) = true := zrecvT (Or.inr (Or.inr h)) h9
end ZL12
-- zp23 stands above
theorem xa23_0 {w : zWt} {d : Nat} {H : zHt} {K : Int → zWt → zHt → Prop} {l0 : Int}
    (h : ((0 : Int) ≤ l0) ∧ (zIsT w l0) ∧ (zIsB w (zTv H l0)) ∧ zcaI w d 24 [zR l0] H (fun x5 w6 H4 => K (zshr (zsz w (zTv H l0) : Int) x5) w6 H4)) :
    zcaI w (d + 1) 23 [zR l0] H K := by
  show zga w (d + 1) 23 0 [zR l0] [] H (zQaI K)
  obtain ⟨c1, h⟩ := h
  refine ga_al zp23 rfl rfl rfl c1 ?_
  obtain ⟨c2, h⟩ := h
  refine ga_sgetV zp23 rfl rfl c2 ?_
  obtain ⟨c3, h⟩ := h
  refine ga_lenB zp23 rfl rfl c3 ?_
  refine ga_al zp23 rfl rfl rfl c1 ?_
  refine ga_callI (as := [zR l0]) (rest := [zI (zsz w (zTv H l0) : Int)]) zp23 rfl rfl (Nat.succ_pos _) rfl rfl (Nat.le_of_ble_eq_true rfl) (Nat.le_of_ble_eq_true rfl) (zrecvT c2 rfl) rfl h (fun x5 w6 H4 h => ?_)
  refine ga_ar (r := zshr (zsz w (zTv H l0) : Int) x5) zp23 rfl rfl rfl ?_
  exact ga_ret zp23 rfl rfl ⟨_, rfl, h⟩
-- zp24 stands above
theorem xa24_0 {w : zWt} {d : Nat} {H : zHt} {K : Int → zWt → zHt → Prop} {l0 : Int}
    (h : ((0 : Int) ≤ l0) ∧ (zIsT w l0) ∧ ((-128 : Int) ≤ (zTc H l0) ∧ (zTc H l0) < 128) ∧ K (zTc H l0) w H) :
    zcaI w d 24 [zR l0] H K := by
  show zga w d 24 0 [zR l0] [] H (zQaI K)
  refine ga_stat (v := zI 1) zp24 rfl rfl rfl ?_
  refine ga_if zp24 rfl rfl zc0 (fun c1 => ?_) (fun c1 => ?_)
  · exact absurd c1 (by decide)
  · obtain ⟨c2, h⟩ := h
    refine ga_al zp24 rfl rfl rfl c2 ?_
    obtain ⟨c3, h⟩ := h
    refine ga_sgetC zp24 rfl rfl c3 ?_
    refine ga_goto zp24 rfl ?_
    obtain ⟨c4, h⟩ := h
    exact ga_ret zp24 rfl (if_pos c4) ⟨_, rfl, h⟩
-- zp25 stands above
theorem xa25_0 {w : zWt} {d : Nat} {H : zHt} {K : Int → zWt → zHt → Prop} {l0 : Int} {l1 : Int}
    (h : ((0 : Int) ≤ l0) ∧ (zIsT w l0) ∧ zcaI w d 26 [zR l0] H (fun x4 w5 H3 => (x4 = 0 → ((0 : Int) ≤ l0) ∧ (zIsT w5 l0) ∧ False) ∧ (¬ x4 = 0 → ((0 : Int) ≤ l0) ∧ (zIsT w5 l0) ∧ zcaI w5 d 27 [zR (zTv H3 l0), zI l1] H3 (fun x12 w13 H11 => ((0 : Int) ≤ x12 ∧ x12 < 65536) ∧ K x12 w13 H11)))) :
    zcaI w (d + 1) 25 [zR l0, zI l1] H K := by
  show zga w (d + 1) 25 0 [zR l0, zI l1] [] H (zQaI K)
  obtain ⟨c1, h⟩ := h
  refine ga_al zp25 rfl rfl rfl c1 ?_
  obtain ⟨c2, h⟩ := h
  refine ga_callI (as := [zR l0]) (rest := []) zp25 rfl rfl (Nat.succ_pos _) rfl rfl (Nat.le_of_ble_eq_true rfl) (Nat.le_of_ble_eq_true rfl) (zrecvT c2 rfl) rfl h (fun x4 w5 H3 h => ?_)
  refine ga_if zp25 rfl rfl zc0 (fun c6 => ?_) (fun c6 => ?_)
  · replace h := h.1 c6
    obtain ⟨c7, h⟩ := h
    refine ga_al zp25 rfl rfl rfl c7 ?_
    obtain ⟨c8, h⟩ := h
    refine ga_sgetV zp25 rfl rfl c8 ?_
    refine ga_il zp25 rfl rfl rfl ?_
    exact h.elim
  · replace h := h.2 c6
    obtain ⟨c9, h⟩ := h
    refine ga_al zp25 rfl rfl rfl c9 ?_
    obtain ⟨c10, h⟩ := h
    refine ga_sgetV zp25 rfl rfl c10 ?_
    refine ga_il zp25 rfl rfl rfl ?_
    refine ga_callI (as := [zR (zTv H3 l0), zI l1]) (rest := []) zp25 rfl rfl (Nat.succ_pos _) rfl rfl (Nat.le_of_ble_eq_true rfl) (Nat.le_of_ble_eq_true rfl) rfl rfl h (fun x12 w13 H11 h => ?_)
    obtain ⟨c14, h⟩ := h
    exact ga_ret zp25 rfl (if_pos c14) ⟨_, rfl, h⟩
-- zp26 stands above
theorem xa26_0 {w : zWt} {d : Nat} {H : zHt} {K : Int → zWt → zHt → Prop} {l0 : Int}
    (h : ((0 : Int) ≤ l0) ∧ (zIsT w l0) ∧ (¬ (zTc H l0) = 0 → K 0 w H) ∧ ((zTc H l0) = 0 → K 1 w H)) :
    zcaI w d 26 [zR l0] H K := by
  show zga w d 26 0 [zR l0] [] H (zQaI K)
  refine ga_stat (v := zI 1) zp26 rfl rfl rfl ?_
  refine ga_if zp26 rfl rfl zc0 (fun c1 => ?_) (fun c1 => ?_)
  · exact absurd c1 (by decide)
  · obtain ⟨c2, h⟩ := h
    refine ga_al zp26 rfl rfl rfl c2 ?_
    obtain ⟨c3, h⟩ := h
    refine ga_sgetC zp26 rfl rfl c3 ?_
    refine ga_if zp26 rfl rfl zc1 (fun c4 => ?_) (fun c4 => ?_)
    · replace h := h.1 c4
      refine ga_ic zp26 rfl rfl ?_
      exact ga_ret zp26 rfl (zret_b (by decide)) ⟨_, rfl, h⟩
    · replace h := h.2 c4
      refine ga_ic zp26 rfl rfl ?_
      refine ga_goto zp26 rfl ?_
      exact ga_ret zp26 rfl (zret_b (by decide)) ⟨_, rfl, h⟩
-- zp27 stands above
theorem xa27_0 {w : zWt} {d : Nat} {H : zHt} {K : Int → zWt → zHt → Prop} {l0 : Int} {l1 : Int}
    (h : ((0 : Int) ≤ l0) ∧ (zIsB w l0) ∧ zclV w d 28 [zI l1, zI (zsz w l0 : Int)] H (fun H3 => ((0 : Int) ≤ l1 ∧ l1 < (zsz w l0 : Int)) ∧ ((0 : Int) ≤ (zand (zM w H3 l0 l1) 255) ∧ (zand (zM w H3 l0 l1) 255) < 65536) ∧ K (zand (zM w H3 l0 l1) 255) w H3)) :
    zcaI w (d + 1) 27 [zR l0, zI l1] H K := by
  show zga w (d + 1) 27 0 [zR l0, zI l1] [] H (zQaI K)
  refine ga_il zp27 rfl rfl rfl ?_
  obtain ⟨c1, h⟩ := h
  refine ga_al zp27 rfl rfl rfl c1 ?_
  obtain ⟨c2, h⟩ := h
  refine ga_lenB zp27 rfl rfl c2 ?_
  refine ga_calV (as := [zI l1, zI (zsz w l0 : Int)]) (rest := []) zp27 rfl rfl (Nat.succ_pos _) rfl rfl (Nat.le_of_ble_eq_true rfl) (Nat.le_of_ble_eq_true rfl) rfl rfl h (fun H3 h => ?_)
  refine ga_al zp27 rfl rfl rfl c1 ?_
  refine ga_il zp27 rfl rfl rfl ?_
  obtain ⟨c6, h⟩ := h
  refine ga_aldB zp27 rfl rfl c2 c6 ?_
  refine ga_ic zp27 rfl rfl ?_
  refine ga_ar (r := zand (zM w H3 l0 l1) 255) zp27 rfl rfl rfl ?_
  obtain ⟨c7, h⟩ := h
  refine ga_i2c zp27 rfl rfl c7 ?_
  exact ga_ret zp27 rfl (if_pos c7) ⟨_, rfl, h⟩
theorem zp178 : zprog.getD 178 [] = zk178 := rfl
theorem xa178_0 {w : zWt} {d : Nat} {H : zHt} {K : zWt → zHt → Prop} {l1 : Int}
    (h : zga w (d + 1) 178 2 [zR 32, zR l1, zI 0, zJ, zJ] [] H (zQaV K)) :
    zcaV w (d + 1) 178 [zR 32, zR l1] H K := by
  show zga w (d + 1) 178 0 [zR 32, zR l1, zJ, zJ, zJ] [] H (zQaV K)
  refine ga_ic zp178 rfl rfl ?_
  refine ga_is (ls' := [zR 32, zR l1, zI 0, zJ, zJ]) zp178 rfl rfl (Nat.le_of_ble_eq_true rfl) rfl ?_
  exact ga_weak (ls' := [zR 32, zR l1, zI 0, zJ, zJ]) ⟨Or.inr rfl, Or.inr rfl, Or.inr rfl, Or.inr rfl, Or.inr rfl, trivial⟩ h
theorem xa178_2 {w : zWt} {d : Nat} {H : zHt} {K : zWt → zHt → Prop} {l1 : Int} {l2 : Int}
    (h : ((0 : Int) ≤ l1) ∧ (zIsT w l1) ∧ zcaI w d 23 [zR l1] H (fun x4 w5 H3 => (x4 ≤ l2 → K w5 H3) ∧ (l2 < x4 → ((0 : Int) ≤ 5 ∧ 5 ≤ (100000 : Int)) ∧ (∀ o8 : Int, o8 = (zNc w5) → ∀ w10 : zWt, w10 = (zwp w5 (100 + 0) (Int.toNat 5)) → ∀ H12 : zHt, H12 = (znew H3 (zNc w5) (fun _ => 0)) → ((0 : Int) ≤ o8) ∧ zga w10 (d + 1) 178 17 [zR 32, zR l1, zI l2, zR o8, zI 0] [] H12 (zQaV K))))) :
    zga w (d + 1) 178 2 [zR 32, zR l1, zI l2, zJ, zJ] [] H (zQaV K) := by
  refine ga_il zp178 rfl rfl rfl ?_
  obtain ⟨c1, h⟩ := h
  refine ga_al zp178 rfl rfl rfl c1 ?_
  obtain ⟨c2, h⟩ := h
  refine ga_callI (as := [zR l1]) (rest := [zI l2]) zp178 rfl rfl (Nat.succ_pos _) rfl rfl (Nat.le_of_ble_eq_true rfl) (Nat.le_of_ble_eq_true rfl) (zrecvT c2 rfl) rfl h (fun x4 w5 H3 h => ?_)
  refine ga_icmp zp178 rfl rfl zc3 (fun c6 => ?_) (fun c6 => ?_)
  · replace h := h.1 c6
    exact ga_ret zp178 rfl rfl ⟨rfl, h⟩
  · replace h := h.2 c6
    refine ga_ic zp178 rfl rfl ?_
    obtain ⟨c7, h⟩ := h
    refine ga_newa zp178 rfl rfl c7 (by decide) ?_
    let o8 : Int := zNc w5
    replace h := h o8 rfl
    let w10 : zWt := zwp w5 (100 + 0) (Int.toNat 5)
    replace h := h w10 rfl
    let H12 : zHt := znew H3 (zNc w5) (fun _ => 0)
    replace h := h H12 rfl
    obtain ⟨c14, h⟩ := h
    refine ga_as (ls' := [zR 32, zR l1, zI l2, zR o8, zJ]) zp178 rfl rfl (Nat.le_of_ble_eq_true rfl) c14 rfl ?_
    refine ga_ic zp178 rfl rfl ?_
    refine ga_is (ls' := [zR 32, zR l1, zI l2, zR o8, zI 0]) zp178 rfl rfl (Nat.le_of_ble_eq_true rfl) rfl ?_
    exact ga_weak (ls' := [zR 32, zR l1, zI l2, zR o8, zI 0]) ⟨Or.inr rfl, Or.inr rfl, Or.inr rfl, Or.inr rfl, Or.inr rfl, trivial⟩ h
theorem xa178_17 {w : zWt} {d : Nat} {H : zHt} {K : zWt → zHt → Prop} {l1 : Int} {l2 : Int} {l3 : Int} {l4 : Int}
    (h : (20 ≤ l4 → ((0 : Int) ≤ l3) ∧ (zSh w l3 100 (zsz w l3)) ∧ ((0 : Int) ≤ 0 ∧ 0 < (zsz w l3 : Int)) ∧ ((0 : Int) ≤ 1 ∧ 1 < (zsz w l3 : Int)) ∧ ((0 : Int) ≤ 2 ∧ 2 < (zsz w l3 : Int)) ∧ ((0 : Int) ≤ 3 ∧ 3 < (zsz w l3 : Int)) ∧ ((0 : Int) ≤ 4 ∧ 4 < (zsz w l3 : Int)) ∧ zclI w d 10 [zR 32, zI (H l3 0), zI (H l3 1), zI (H l3 2), zI (H l3 3), zI (H l3 4)] H (fun x10 H9 => zga w (d + 1) 178 2 [zR 32, zR l1, zI (w32 (l2 + 20)), zJ, zJ] [] H9 (zQaV K))) ∧ (l4 < 20 → ((0 : Int) ≤ l3) ∧ (zSh w l3 100 (zsz w l3)) ∧ ((0 : Int) ≤ (w32 (Int.tdiv l4 4)) ∧ (w32 (Int.tdiv l4 4)) < (zsz w l3 : Int)) ∧ ((0 : Int) ≤ l1) ∧ (zIsT w l1) ∧ zcaI w d 23 [zR l1] H (fun x18 w19 H17 => (x18 ≤ (w32 (l2 + l4)) → (zSh w19 l3 100 (zsz w19 l3)) ∧ ((0 : Int) ≤ (w32 (Int.tdiv l4 4)) ∧ (w32 (Int.tdiv l4 4)) < (zsz w19 l3 : Int)) ∧ (∀ H23 : zHt, H23 = (zup H17 l3 (w32 (Int.tdiv l4 4)) (zor (zshl (H l3 (w32 (Int.tdiv l4 4))) 8) 32)) → zga w19 (d + 1) 178 17 [zR 32, zR l1, zI l2, zR l3, zI (w32 (l4 + 1))] [] H23 (zQaV K))) ∧ ((w32 (l2 + l4)) < x18 → ((0 : Int) ≤ l1) ∧ (zIsT w19 l1) ∧ zcaI w19 d 25 [zR l1, zI (w32 (l2 + l4))] H17 (fun x28 w29 H27 => (zSh w29 l3 100 (zsz w29 l3)) ∧ ((0 : Int) ≤ (w32 (Int.tdiv l4 4)) ∧ (w32 (Int.tdiv l4 4)) < (zsz w29 l3 : Int)) ∧ (∀ H32 : zHt, H32 = (zup H27 l3 (w32 (Int.tdiv l4 4)) (zor (zshl (H l3 (w32 (Int.tdiv l4 4))) 8) (zand x28 255))) → zga w29 (d + 1) 178 17 [zR 32, zR l1, zI l2, zR l3, zI (w32 (l4 + 1))] [] H32 (zQaV K))))))) :
    zga w (d + 1) 178 17 [zR 32, zR l1, zI l2, zR l3, zI l4] [] H (zQaV K) := by
  refine ga_il zp178 rfl rfl rfl ?_
  refine ga_ic zp178 rfl rfl ?_
  refine ga_icmp zp178 rfl rfl zc3 (fun c1 => ?_) (fun c1 => ?_)
  · replace h := h.1 c1
    refine ga_al zp178 rfl rfl rfl (by decide) ?_
    obtain ⟨c2, h⟩ := h
    refine ga_al zp178 rfl rfl rfl c2 ?_
    refine ga_ic zp178 rfl rfl ?_
    obtain ⟨c3, h⟩ := h
    obtain ⟨c4, h⟩ := h
    refine ga_aldS (v := zI (H l3 0)) zp178 rfl rfl c3 rfl c4 rfl ?_
    refine ga_al zp178 rfl rfl rfl c2 ?_
    refine ga_ic zp178 rfl rfl ?_
    obtain ⟨c5, h⟩ := h
    refine ga_aldS (v := zI (H l3 1)) zp178 rfl rfl c3 rfl c5 rfl ?_
    refine ga_al zp178 rfl rfl rfl c2 ?_
    refine ga_ic zp178 rfl rfl ?_
    obtain ⟨c6, h⟩ := h
    refine ga_aldS (v := zI (H l3 2)) zp178 rfl rfl c3 rfl c6 rfl ?_
    refine ga_al zp178 rfl rfl rfl c2 ?_
    refine ga_ic zp178 rfl rfl ?_
    obtain ⟨c7, h⟩ := h
    refine ga_aldS (v := zI (H l3 3)) zp178 rfl rfl c3 rfl c7 rfl ?_
    refine ga_al zp178 rfl rfl rfl c2 ?_
    refine ga_ic zp178 rfl rfl ?_
    obtain ⟨c8, h⟩ := h
    refine ga_aldS (v := zI (H l3 4)) zp178 rfl rfl c3 rfl c8 rfl ?_
    refine ga_calI (as := [zR 32, zI (H l3 0), zI (H l3 1), zI (H l3 2), zI (H l3 3), zI (H l3 4)]) (rest := []) zp178 rfl rfl (Nat.succ_pos _) rfl rfl (Nat.le_of_ble_eq_true rfl) (Nat.le_of_ble_eq_true rfl) rfl rfl h (fun x10 H9 h => ?_)
    refine ga_pop zp178 rfl rfl rfl ?_
    refine ga_inc (ls' := [zR 32, zR l1, zI (w32 (l2 + 20)), zR l3, zI l4]) zp178 rfl rfl rfl rfl ?_
    refine ga_goto zp178 rfl ?_
    exact ga_weak (ls' := [zR 32, zR l1, zI (w32 (l2 + 20)), zJ, zJ]) ⟨Or.inr rfl, Or.inr rfl, Or.inr rfl, Or.inl rfl, Or.inl rfl, trivial⟩ h
  · replace h := h.2 c1
    obtain ⟨c12, h⟩ := h
    refine ga_al zp178 rfl rfl rfl c12 ?_
    refine ga_il zp178 rfl rfl rfl ?_
    refine ga_ic zp178 rfl rfl ?_
    refine ga_ar (r := w32 (Int.tdiv l4 4)) zp178 rfl rfl (zr_div (by decide)) ?_
    refine ga_al zp178 rfl rfl rfl c12 ?_
    refine ga_il zp178 rfl rfl rfl ?_
    refine ga_ic zp178 rfl rfl ?_
    refine ga_ar (r := w32 (Int.tdiv l4 4)) zp178 rfl rfl (zr_div (by decide)) ?_
    obtain ⟨c13, h⟩ := h
    obtain ⟨c14, h⟩ := h
    refine ga_aldS (v := zI (H l3 (w32 (Int.tdiv l4 4)))) zp178 rfl rfl c13 rfl c14 rfl ?_
    refine ga_ic zp178 rfl rfl ?_
    refine ga_ar (r := zshl (H l3 (w32 (Int.tdiv l4 4))) 8) zp178 rfl rfl rfl ?_
    refine ga_il zp178 rfl rfl rfl ?_
    refine ga_il zp178 rfl rfl rfl ?_
    refine ga_ar (r := w32 (l2 + l4)) zp178 rfl rfl rfl ?_
    obtain ⟨c15, h⟩ := h
    refine ga_al zp178 rfl rfl rfl c15 ?_
    obtain ⟨c16, h⟩ := h
    refine ga_callI (as := [zR l1]) (rest := [zI (w32 (l2 + l4)), zI (zshl (H l3 (w32 (Int.tdiv l4 4))) 8), zI (w32 (Int.tdiv l4 4)), zR l3]) zp178 rfl rfl (Nat.succ_pos _) rfl rfl (Nat.le_of_ble_eq_true rfl) (Nat.le_of_ble_eq_true rfl) (zrecvT c16 rfl) rfl h (fun x18 w19 H17 h => ?_)
    refine ga_icmp zp178 rfl rfl zc3 (fun c20 => ?_) (fun c20 => ?_)
    · replace h := h.1 c20
      refine ga_ic zp178 rfl rfl ?_
      refine ga_ar (r := zor (zshl (H l3 (w32 (Int.tdiv l4 4))) 8) 32) zp178 rfl rfl rfl ?_
      obtain ⟨c21, h⟩ := h
      obtain ⟨c22, h⟩ := h
      refine ga_iastS zp178 rfl rfl c21 c22 ?_
      let H23 : zHt := zup H17 l3 (w32 (Int.tdiv l4 4)) (zor (zshl (H l3 (w32 (Int.tdiv l4 4))) 8) 32)
      replace h := h H23 rfl
      refine ga_inc (ls' := [zR 32, zR l1, zI l2, zR l3, zI (w32 (l4 + 1))]) zp178 rfl rfl rfl rfl ?_
      refine ga_goto zp178 rfl ?_
      exact ga_weak (ls' := [zR 32, zR l1, zI l2, zR l3, zI (w32 (l4 + 1))]) ⟨Or.inr rfl, Or.inr rfl, Or.inr rfl, Or.inr rfl, Or.inr rfl, trivial⟩ h
    · replace h := h.2 c20
      obtain ⟨c25, h⟩ := h
      refine ga_al zp178 rfl rfl rfl c25 ?_
      refine ga_il zp178 rfl rfl rfl ?_
      refine ga_il zp178 rfl rfl rfl ?_
      refine ga_ar (r := w32 (l2 + l4)) zp178 rfl rfl rfl ?_
      obtain ⟨c26, h⟩ := h
      refine ga_callI (as := [zR l1, zI (w32 (l2 + l4))]) (rest := [zI (zshl (H l3 (w32 (Int.tdiv l4 4))) 8), zI (w32 (Int.tdiv l4 4)), zR l3]) zp178 rfl rfl (Nat.succ_pos _) rfl rfl (Nat.le_of_ble_eq_true rfl) (Nat.le_of_ble_eq_true rfl) (zrecvT c26 rfl) rfl h (fun x28 w29 H27 h => ?_)
      refine ga_ic zp178 rfl rfl ?_
      refine ga_ar (r := zand x28 255) zp178 rfl rfl rfl ?_
      refine ga_goto zp178 rfl ?_
      refine ga_ar (r := zor (zshl (H l3 (w32 (Int.tdiv l4 4))) 8) (zand x28 255)) zp178 rfl rfl rfl ?_
      obtain ⟨c30, h⟩ := h
      obtain ⟨c31, h⟩ := h
      refine ga_iastS zp178 rfl rfl c30 c31 ?_
      let H32 : zHt := zup H27 l3 (w32 (Int.tdiv l4 4)) (zor (zshl (H l3 (w32 (Int.tdiv l4 4))) 8) (zand x28 255))
      replace h := h H32 rfl
      refine ga_inc (ls' := [zR 32, zR l1, zI l2, zR l3, zI (w32 (l4 + 1))]) zp178 rfl rfl rfl rfl ?_
      refine ga_goto zp178 rfl ?_
      exact ga_weak (ls' := [zR 32, zR l1, zI l2, zR l3, zI (w32 (l4 + 1))]) ⟨Or.inr rfl, Or.inr rfl, Or.inr rfl, Or.inr rfl, Or.inr rfl, trivial⟩ h
theorem zp179 : zprog.getD 179 [] = zk179 := rfl
theorem xa179_0 {w : zWt} {d : Nat} {H : zHt} {K : Int → zWt → zHt → Prop} {l1 : Int}
    (h : ((0 : Int) ≤ l1) ∧ zcaV w d 178 [zR 32, zR l1] H (fun w4 H2 => ((0 : Int) ≤ l1) ∧ (zIsT w4 l1) ∧ zcaI w4 d 23 [zR l1] H2 (fun x8 w9 H7 => zclI w9 d 12 [zR 32, zI x8] H7 (fun x11 H10 => K x11 w9 H10)))) :
    zcaI w (d + 1) 179 [zR 32, zR l1] H K := by
  show zga w (d + 1) 179 0 [zR 32, zR l1] [] H (zQaI K)
  refine ga_al zp179 rfl rfl rfl (by decide) ?_
  obtain ⟨c1, h⟩ := h
  refine ga_al zp179 rfl rfl rfl c1 ?_
  refine ga_callV (as := [zR 32, zR l1]) (rest := []) zp179 rfl rfl (Nat.succ_pos _) rfl rfl (Nat.le_of_ble_eq_true rfl) (Nat.le_of_ble_eq_true rfl) rfl rfl h (fun w4 H2 h => ?_)
  refine ga_al zp179 rfl rfl rfl (by decide) ?_
  obtain ⟨c5, h⟩ := h
  refine ga_al zp179 rfl rfl rfl c5 ?_
  obtain ⟨c6, h⟩ := h
  refine ga_callI (as := [zR l1]) (rest := [zR 32]) zp179 rfl rfl (Nat.succ_pos _) rfl rfl (Nat.le_of_ble_eq_true rfl) (Nat.le_of_ble_eq_true rfl) (zrecvT c6 rfl) rfl h (fun x8 w9 H7 h => ?_)
  refine ga_calI (as := [zR 32, zI x8]) (rest := []) zp179 rfl rfl (Nat.succ_pos _) rfl rfl (Nat.le_of_ble_eq_true rfl) (Nat.le_of_ble_eq_true rfl) rfl rfl h (fun x11 H10 h => ?_)
  exact ga_ret zp179 rfl rfl ⟨_, rfl, h⟩
theorem zp180 : zprog.getD 180 [] = zk180 := rfl
theorem xa180_0 {w : zWt} {d : Nat} {H : zHt} {K : Int → zWt → zHt → Prop} 
    (h : ∀ o1 : Int, o1 = (zNc w) → ∀ w3 : zWt, w3 = (zwp w 6 (znf.getD 6 0)) → ∀ H5 : zHt, H5 = (znew H (zNc w) (fun j => if zft 6 j.toNat = 2 then -1 else 0)) → (zSh w3 o1 6 4) ∧ zcaV w3 d 181 [zR o1, zR 18] H5 (fun w10 H8 => zclI w10 d 170 [zR 0, zI 0] H8 (fun x12 H11 => zclI w10 d 171 [zI x12, zI 4] H11 (fun x15 H14 => ((0 : Int) ≤ x15 ∧ x15 < 4) ∧ (zSh w10 o1 6 4) ∧ zcaR w10 d 184 [zR o1, zR (6 + x15)] H14 (fun x20 w21 H19 => (zSh w21 x20 6 4) ∧ zcaR w21 d 184 [zR x20, zR 19] H19 (fun x24 w25 H23 => zclI w25 d 170 [zR 0, zI 0] H23 (fun x27 H26 => zclI w25 d 171 [zI (zshr x27 3), zI 4000] H26 (fun x30 H29 => (zSh w25 x24 6 4) ∧ zcaR w25 d 194 [zR x24, zI (w32 (50 + x30))] H29 (fun x34 w35 H33 => (zSh w35 x34 6 4) ∧ zcaR w35 d 184 [zR x34, zR 20] H33 (fun x38 w39 H37 => zclI w39 d 170 [zR 0, zI 1] H37 (fun x41 H40 => zclI w39 d 171 [zI x41, zI 12] H40 (fun x44 H43 => (zSh w39 x38 6 4) ∧ zcaR w39 d 194 [zR x38, zI (w32 (1 + x44))] H43 (fun x48 w49 H47 => (zSh w49 x48 6 4) ∧ zcaR w49 d 198 [zR x48, zI 59] H47 (fun x52 w53 H51 => ((0 : Int) ≤ x52) ∧ zga w53 (d + 1) 180 77 [zR 0, zR x52, zI 0] [] H51 (zQaR K))))))))))))))) :
    zcaR w (d + 1) 180 [zR 0] H K := by
  show zga w (d + 1) 180 0 [zR 0, zJ, zJ] [] H (zQaR K)
  refine ga_new zp180 rfl rfl (by decide) ?_
  let o1 : Int := zNc w
  replace h := h o1 rfl
  let w3 : zWt := zwp w 6 (znf.getD 6 0)
  replace h := h w3 rfl
  let H5 : zHt := znew H (zNc w) (fun j => if zft 6 j.toNat = 2 then -1 else 0)
  replace h := h H5 rfl
  refine ga_dup zp180 rfl rfl rfl ?_
  refine ga_ldc12 (v := zR 18) zp180 rfl rfl (by decide) rfl ?_
  obtain ⟨c7, h⟩ := h
  refine ga_callV (as := [zR o1, zR 18]) (rest := [zR o1]) zp180 rfl rfl (Nat.succ_pos _) rfl rfl (Nat.le_of_ble_eq_true rfl) (Nat.le_of_ble_eq_true rfl) (zrecv_of c7.2 rfl) rfl h (fun w10 H8 h => ?_)
  refine ga_stat (v := zR 26) zp180 rfl rfl rfl ?_
  refine ga_al zp180 rfl rfl rfl (by decide) ?_
  refine ga_ic zp180 rfl rfl ?_
  refine ga_calI (as := [zR 0, zI 0]) (rest := [zR 26, zR o1]) zp180 rfl rfl (Nat.succ_pos _) rfl rfl (Nat.le_of_ble_eq_true rfl) (Nat.le_of_ble_eq_true rfl) rfl rfl h (fun x12 H11 h => ?_)
  refine ga_ic zp180 rfl rfl ?_
  refine ga_calI (as := [zI x12, zI 4]) (rest := [zR 26, zR o1]) zp180 rfl rfl (Nat.succ_pos _) rfl rfl (Nat.le_of_ble_eq_true rfl) (Nat.le_of_ble_eq_true rfl) rfl rfl h (fun x15 H14 h => ?_)
  obtain ⟨c17, h⟩ := h
  refine ga_ald (v := zR (6 + x15)) (c := 92) (N := 4) zp180 rfl rfl rfl rfl c17 rfl ?_
  obtain ⟨c18, h⟩ := h
  refine ga_callR (as := [zR o1, zR (6 + x15)]) (rest := []) zp180 rfl rfl (Nat.succ_pos _) rfl rfl (Nat.le_of_ble_eq_true rfl) (Nat.le_of_ble_eq_true rfl) (zrecv_of c18.2 rfl) rfl h (fun x20 w21 H19 h => ?_)
  refine ga_ldc12 (v := zR 19) zp180 rfl rfl (by decide) rfl ?_
  obtain ⟨c22, h⟩ := h
  refine ga_callR (as := [zR x20, zR 19]) (rest := []) zp180 rfl rfl (Nat.succ_pos _) rfl rfl (Nat.le_of_ble_eq_true rfl) (Nat.le_of_ble_eq_true rfl) (zrecv_of c22.2 rfl) rfl h (fun x24 w25 H23 h => ?_)
  refine ga_ic zp180 rfl rfl ?_
  refine ga_al zp180 rfl rfl rfl (by decide) ?_
  refine ga_ic zp180 rfl rfl ?_
  refine ga_calI (as := [zR 0, zI 0]) (rest := [zI 50, zR x24]) zp180 rfl rfl (Nat.succ_pos _) rfl rfl (Nat.le_of_ble_eq_true rfl) (Nat.le_of_ble_eq_true rfl) rfl rfl h (fun x27 H26 h => ?_)
  refine ga_ic zp180 rfl rfl ?_
  refine ga_ar (r := zshr x27 3) zp180 rfl rfl rfl ?_
  refine ga_ic zp180 rfl rfl ?_
  refine ga_calI (as := [zI (zshr x27 3), zI 4000]) (rest := [zI 50, zR x24]) zp180 rfl rfl (Nat.succ_pos _) rfl rfl (Nat.le_of_ble_eq_true rfl) (Nat.le_of_ble_eq_true rfl) rfl rfl h (fun x30 H29 h => ?_)
  refine ga_ar (r := w32 (50 + x30)) zp180 rfl rfl rfl ?_
  obtain ⟨c32, h⟩ := h
  refine ga_callR (as := [zR x24, zI (w32 (50 + x30))]) (rest := []) zp180 rfl rfl (Nat.succ_pos _) rfl rfl (Nat.le_of_ble_eq_true rfl) (Nat.le_of_ble_eq_true rfl) (zrecv_of c32.2 rfl) rfl h (fun x34 w35 H33 h => ?_)
  refine ga_ldc12 (v := zR 20) zp180 rfl rfl (by decide) rfl ?_
  obtain ⟨c36, h⟩ := h
  refine ga_callR (as := [zR x34, zR 20]) (rest := []) zp180 rfl rfl (Nat.succ_pos _) rfl rfl (Nat.le_of_ble_eq_true rfl) (Nat.le_of_ble_eq_true rfl) (zrecv_of c36.2 rfl) rfl h (fun x38 w39 H37 h => ?_)
  refine ga_ic zp180 rfl rfl ?_
  refine ga_al zp180 rfl rfl rfl (by decide) ?_
  refine ga_ic zp180 rfl rfl ?_
  refine ga_calI (as := [zR 0, zI 1]) (rest := [zI 1, zR x38]) zp180 rfl rfl (Nat.succ_pos _) rfl rfl (Nat.le_of_ble_eq_true rfl) (Nat.le_of_ble_eq_true rfl) rfl rfl h (fun x41 H40 h => ?_)
  refine ga_ic zp180 rfl rfl ?_
  refine ga_calI (as := [zI x41, zI 12]) (rest := [zI 1, zR x38]) zp180 rfl rfl (Nat.succ_pos _) rfl rfl (Nat.le_of_ble_eq_true rfl) (Nat.le_of_ble_eq_true rfl) rfl rfl h (fun x44 H43 h => ?_)
  refine ga_ar (r := w32 (1 + x44)) zp180 rfl rfl rfl ?_
  obtain ⟨c46, h⟩ := h
  refine ga_callR (as := [zR x38, zI (w32 (1 + x44))]) (rest := []) zp180 rfl rfl (Nat.succ_pos _) rfl rfl (Nat.le_of_ble_eq_true rfl) (Nat.le_of_ble_eq_true rfl) (zrecv_of c46.2 rfl) rfl h (fun x48 w49 H47 h => ?_)
  refine ga_ic zp180 rfl rfl ?_
  obtain ⟨c50, h⟩ := h
  refine ga_callR (as := [zR x48, zI 59]) (rest := []) zp180 rfl rfl (Nat.succ_pos _) rfl rfl (Nat.le_of_ble_eq_true rfl) (Nat.le_of_ble_eq_true rfl) (zrecv_of c50.2 rfl) rfl h (fun x52 w53 H51 h => ?_)
  obtain ⟨c54, h⟩ := h
  refine ga_as (ls' := [zR 0, zR x52, zJ]) zp180 rfl rfl (Nat.le_of_ble_eq_true rfl) c54 rfl ?_
  refine ga_ic zp180 rfl rfl ?_
  refine ga_is (ls' := [zR 0, zR x52, zI 0]) zp180 rfl rfl (Nat.le_of_ble_eq_true rfl) rfl ?_
  exact ga_weak (ls' := [zR 0, zR x52, zI 0]) ⟨Or.inr rfl, Or.inr rfl, Or.inr rfl, trivial⟩ h
theorem xa180_77 {w : zWt} {d : Nat} {H : zHt} {K : Int → zWt → zHt → Prop} {l1 : Int} {l2 : Int}
    (h : zclI w d 170 [zR 0, zI 1] H (fun x2 H1 => zclI w d 171 [zI (zshr x2 4), zI 3] H1 (fun x5 H4 => ((w32 (2 + x5)) ≤ l2 → ((0 : Int) ≤ l1) ∧ (zSh w l1 6 4) ∧ zcaR w d 201 [zR l1] H4 (fun x11 w12 H10 => ((0 : Int) ≤ x11) ∧ K x11 w12 H10)) ∧ (l2 < (w32 (2 + x5)) → ((0 : Int) ≤ l1) ∧ (zSh w l1 6 4) ∧ zcaR w d 184 [zR l1, zR 21] H4 (fun x17 w18 H16 => ((0 : Int) ≤ (w32 (97 + l2)) ∧ (w32 (97 + l2)) < 65536) ∧ (zSh w18 x17 6 4) ∧ zcaR w18 d 198 [zR x17, zI (w32 (97 + l2))] H16 (fun x22 w23 H21 => (zSh w23 x22 6 4) ∧ zcaR w23 d 198 [zR x22, zI 32] H21 (fun x26 w27 H25 => zclI w27 d 170 [zR 0, zI (w32 (2 + l2))] H25 (fun x29 H28 => zclI w27 d 171 [zI x29, zI 1200] H28 (fun x32 H31 => (zSh w27 x26 6 4) ∧ zcaR w27 d 194 [zR x26, zI (w32 (1 + x32))] H31 (fun x36 w37 H35 => (zSh w37 x36 6 4) ∧ zcaR w37 d 198 [zR x36, zI 59] H35 (fun x40 w41 H39 => zga w41 (d + 1) 180 77 [zR 0, zR l1, zI (w32 (l2 + 1))] [] H39 (zQaR K)))))))))))) :
    zga w (d + 1) 180 77 [zR 0, zR l1, zI l2] [] H (zQaR K) := by
  refine ga_il zp180 rfl rfl rfl ?_
  refine ga_ic zp180 rfl rfl ?_
  refine ga_al zp180 rfl rfl rfl (by decide) ?_
  refine ga_ic zp180 rfl rfl ?_
  refine ga_calI (as := [zR 0, zI 1]) (rest := [zI 2, zI l2]) zp180 rfl rfl (Nat.succ_pos _) rfl rfl (Nat.le_of_ble_eq_true rfl) (Nat.le_of_ble_eq_true rfl) rfl rfl h (fun x2 H1 h => ?_)
  refine ga_ic zp180 rfl rfl ?_
  refine ga_ar (r := zshr x2 4) zp180 rfl rfl rfl ?_
  refine ga_ic zp180 rfl rfl ?_
  refine ga_calI (as := [zI (zshr x2 4), zI 3]) (rest := [zI 2, zI l2]) zp180 rfl rfl (Nat.succ_pos _) rfl rfl (Nat.le_of_ble_eq_true rfl) (Nat.le_of_ble_eq_true rfl) rfl rfl h (fun x5 H4 h => ?_)
  refine ga_ar (r := w32 (2 + x5)) zp180 rfl rfl rfl ?_
  refine ga_icmp zp180 rfl rfl zc3 (fun c7 => ?_) (fun c7 => ?_)
  · replace h := h.1 c7
    obtain ⟨c8, h⟩ := h
    refine ga_al zp180 rfl rfl rfl c8 ?_
    obtain ⟨c9, h⟩ := h
    refine ga_callR (as := [zR l1]) (rest := []) zp180 rfl rfl (Nat.succ_pos _) rfl rfl (Nat.le_of_ble_eq_true rfl) (Nat.le_of_ble_eq_true rfl) (zrecv_of c9.2 rfl) rfl h (fun x11 w12 H10 h => ?_)
    obtain ⟨c13, h⟩ := h
    exact ga_ret zp180 rfl (zret_r c13) ⟨_, rfl, h⟩
  · replace h := h.2 c7
    obtain ⟨c14, h⟩ := h
    refine ga_al zp180 rfl rfl rfl c14 ?_
    refine ga_ldc12 (v := zR 21) zp180 rfl rfl (by decide) rfl ?_
    obtain ⟨c15, h⟩ := h
    refine ga_callR (as := [zR l1, zR 21]) (rest := []) zp180 rfl rfl (Nat.succ_pos _) rfl rfl (Nat.le_of_ble_eq_true rfl) (Nat.le_of_ble_eq_true rfl) (zrecv_of c15.2 rfl) rfl h (fun x17 w18 H16 h => ?_)
    refine ga_ic zp180 rfl rfl ?_
    refine ga_il zp180 rfl rfl rfl ?_
    refine ga_ar (r := w32 (97 + l2)) zp180 rfl rfl rfl ?_
    obtain ⟨c19, h⟩ := h
    refine ga_i2c zp180 rfl rfl c19 ?_
    obtain ⟨c20, h⟩ := h
    refine ga_callR (as := [zR x17, zI (w32 (97 + l2))]) (rest := []) zp180 rfl rfl (Nat.succ_pos _) rfl rfl (Nat.le_of_ble_eq_true rfl) (Nat.le_of_ble_eq_true rfl) (zrecv_of c20.2 rfl) rfl h (fun x22 w23 H21 h => ?_)
    refine ga_ic zp180 rfl rfl ?_
    obtain ⟨c24, h⟩ := h
    refine ga_callR (as := [zR x22, zI 32]) (rest := []) zp180 rfl rfl (Nat.succ_pos _) rfl rfl (Nat.le_of_ble_eq_true rfl) (Nat.le_of_ble_eq_true rfl) (zrecv_of c24.2 rfl) rfl h (fun x26 w27 H25 h => ?_)
    refine ga_ic zp180 rfl rfl ?_
    refine ga_al zp180 rfl rfl rfl (by decide) ?_
    refine ga_ic zp180 rfl rfl ?_
    refine ga_il zp180 rfl rfl rfl ?_
    refine ga_ar (r := w32 (2 + l2)) zp180 rfl rfl rfl ?_
    refine ga_calI (as := [zR 0, zI (w32 (2 + l2))]) (rest := [zI 1, zR x26]) zp180 rfl rfl (Nat.succ_pos _) rfl rfl (Nat.le_of_ble_eq_true rfl) (Nat.le_of_ble_eq_true rfl) rfl rfl h (fun x29 H28 h => ?_)
    refine ga_ic zp180 rfl rfl ?_
    refine ga_calI (as := [zI x29, zI 1200]) (rest := [zI 1, zR x26]) zp180 rfl rfl (Nat.succ_pos _) rfl rfl (Nat.le_of_ble_eq_true rfl) (Nat.le_of_ble_eq_true rfl) rfl rfl h (fun x32 H31 h => ?_)
    refine ga_ar (r := w32 (1 + x32)) zp180 rfl rfl rfl ?_
    obtain ⟨c34, h⟩ := h
    refine ga_callR (as := [zR x26, zI (w32 (1 + x32))]) (rest := []) zp180 rfl rfl (Nat.succ_pos _) rfl rfl (Nat.le_of_ble_eq_true rfl) (Nat.le_of_ble_eq_true rfl) (zrecv_of c34.2 rfl) rfl h (fun x36 w37 H35 h => ?_)
    refine ga_ic zp180 rfl rfl ?_
    obtain ⟨c38, h⟩ := h
    refine ga_callR (as := [zR x36, zI 59]) (rest := []) zp180 rfl rfl (Nat.succ_pos _) rfl rfl (Nat.le_of_ble_eq_true rfl) (Nat.le_of_ble_eq_true rfl) (zrecv_of c38.2 rfl) rfl h (fun x40 w41 H39 h => ?_)
    refine ga_pop zp180 rfl rfl rfl ?_
    refine ga_inc (ls' := [zR 0, zR l1, zI (w32 (l2 + 1))]) zp180 rfl rfl rfl rfl ?_
    refine ga_goto zp180 rfl ?_
    exact ga_weak (ls' := [zR 0, zR l1, zI (w32 (l2 + 1))]) ⟨Or.inr rfl, Or.inr rfl, Or.inr rfl, trivial⟩ h
theorem zp181 : zprog.getD 181 [] = zk181 := rfl
theorem xa181_0 {w : zWt} {d : Nat} {H : zHt} {K : zWt → zHt → Prop} {l0 : Int} {l1 : Int}
    (h : ((0 : Int) ≤ l0) ∧ ((0 : Int) ≤ l1) ∧ (zSh w l0 6 4) ∧ zcaV w d 182 [zR l0, zR l1] H (fun w6 H4 => K w6 H4)) :
    zcaV w (d + 1) 181 [zR l0, zR l1] H K := by
  show zga w (d + 1) 181 0 [zR l0, zR l1] [] H (zQaV K)
  obtain ⟨c1, h⟩ := h
  refine ga_al zp181 rfl rfl rfl c1 ?_
  obtain ⟨c2, h⟩ := h
  refine ga_al zp181 rfl rfl rfl c2 ?_
  obtain ⟨c3, h⟩ := h
  refine ga_callV (as := [zR l0, zR l1]) (rest := []) zp181 rfl rfl (Nat.succ_pos _) rfl rfl (Nat.le_of_ble_eq_true rfl) (Nat.le_of_ble_eq_true rfl) (zrecv_of c3.2 rfl) rfl h (fun w6 H4 h => ?_)
  exact ga_ret zp181 rfl rfl ⟨rfl, h⟩
theorem zp182 : zprog.getD 182 [] = zk182 := rfl
theorem xa182_0 {w : zWt} {d : Nat} {H : zHt} {K : zWt → zHt → Prop} {l0 : Int} {l1 : Int}
    (h : ((0 : Int) ≤ l0) ∧ ((0 : Int) ≤ l1) ∧ (zIsT w l1) ∧ zcaI w d 23 [zR l1] H (fun x5 w6 H4 => (2147483631 ≤ x5 → ((0 : Int) ≤ l1) ∧ (zIsT w6 l1) ∧ zcaI w6 d 24 [zR l1] H4 (fun x11 w12 H10 => ((0 : Int) ≤ l0) ∧ (zSh w12 l0 6 4) ∧ (zb8 x11 = true) ∧ (∀ H16 : zHt, H16 = (zup H10 l0 1 x11) → (¬ x11 = 0 → False) ∧ (x11 = 0 → ((0 : Int) ≤ 2147483647 ∧ 2147483647 ≤ (100000 : Int)) ∧ (∀ o20 : Int, o20 = (zNc w12) → ∀ w22 : zWt, w22 = (zwp w12 (100 + 2) (Int.toNat 2147483647)) → ∀ H24 : zHt, H24 = (znew H16 (zNc w12) (fun _ => 0)) → (zSh w22 l0 6 4) ∧ (∀ H27 : zHt, H27 = (zup H24 l0 0 o20) → ((0 : Int) ≤ l1) ∧ zcaR w22 d 183 [zR l0, zR l1] H27 (fun x31 w32 H30 => K w32 H30))))))) ∧ (x5 < 2147483631 → ((0 : Int) ≤ l1) ∧ (zIsT w6 l1) ∧ zcaI w6 d 24 [zR l1] H4 (fun x36 w37 H35 => ((0 : Int) ≤ l0) ∧ (zSh w37 l0 6 4) ∧ (zb8 x36 = true) ∧ (∀ H41 : zHt, H41 = (zup H35 l0 1 x36) → (¬ x36 = 0 → False) ∧ (x36 = 0 → ((0 : Int) ≤ (w32 (x5 + 16)) ∧ (w32 (x5 + 16)) ≤ (100000 : Int)) ∧ (∀ o45 : Int, o45 = (zNc w37) → ∀ w47 : zWt, w47 = (zwp w37 (100 + 2) (Int.toNat (w32 (x5 + 16)))) → ∀ H49 : zHt, H49 = (znew H41 (zNc w37) (fun _ => 0)) → (zSh w47 l0 6 4) ∧ (∀ H52 : zHt, H52 = (zup H49 l0 0 o45) → ((0 : Int) ≤ l1) ∧ zcaR w47 d 183 [zR l0, zR l1] H52 (fun x56 w57 H55 => K w57 H55))))))))) :
    zcaV w (d + 1) 182 [zR l0, zR l1] H K := by
  show zga w (d + 1) 182 0 [zR l0, zR l1, zJ, zJ, zJ] [] H (zQaV K)
  obtain ⟨c1, h⟩ := h
  refine ga_al zp182 rfl rfl rfl c1 ?_
  refine ga_obj zp182 rfl rfl c1 (Nat.le_of_ble_eq_true rfl) ?_
  obtain ⟨c2, h⟩ := h
  refine ga_al zp182 rfl rfl rfl c2 ?_
  obtain ⟨c3, h⟩ := h
  refine ga_callI (as := [zR l1]) (rest := []) zp182 rfl rfl (Nat.succ_pos _) rfl rfl (Nat.le_of_ble_eq_true rfl) (Nat.le_of_ble_eq_true rfl) (zrecvT c3 rfl) rfl h (fun x5 w6 H4 h => ?_)
  refine ga_is (ls' := [zR l0, zR l1, zI x5, zJ, zJ]) zp182 rfl rfl (Nat.le_of_ble_eq_true rfl) rfl ?_
  refine ga_il zp182 rfl rfl rfl ?_
  refine ga_ic zp182 rfl rfl ?_
  refine ga_icmp zp182 rfl rfl zc3 (fun c7 => ?_) (fun c7 => ?_)
  · replace h := h.1 c7
    refine ga_ic zp182 rfl rfl ?_
    refine ga_is (ls' := [zR l0, zR l1, zI x5, zI 2147483647, zJ]) zp182 rfl rfl (Nat.le_of_ble_eq_true rfl) rfl ?_
    obtain ⟨c8, h⟩ := h
    refine ga_al zp182 rfl rfl rfl c8 ?_
    obtain ⟨c9, h⟩ := h
    refine ga_callI (as := [zR l1]) (rest := []) zp182 rfl rfl (Nat.succ_pos _) rfl rfl (Nat.le_of_ble_eq_true rfl) (Nat.le_of_ble_eq_true rfl) (zrecvT c9 rfl) rfl h (fun x11 w12 H10 h => ?_)
    refine ga_is (ls' := [zR l0, zR l1, zI x5, zI 2147483647, zI x11]) zp182 rfl rfl (Nat.le_of_ble_eq_true rfl) rfl ?_
    obtain ⟨c13, h⟩ := h
    refine ga_al zp182 rfl rfl rfl c13 ?_
    refine ga_il zp182 rfl rfl rfl ?_
    obtain ⟨c14, h⟩ := h
    obtain ⟨c15, h⟩ := h
    refine ga_putS zp182 rfl rfl c14 ⟨rfl, by decide⟩ (by show (0 == 0 && zb8 _) = true; rw [c15]; rfl) ?_
    let H16 : zHt := zup H10 l0 1 x11
    replace h := h H16 rfl
    refine ga_al zp182 rfl rfl rfl c13 ?_
    refine ga_il zp182 rfl rfl rfl ?_
    refine ga_if zp182 rfl rfl zc1 (fun c18 => ?_) (fun c18 => ?_)
    · replace h := h.1 c18
      refine ga_il zp182 rfl rfl rfl ?_
      exact h.elim
    · replace h := h.2 c18
      refine ga_il zp182 rfl rfl rfl ?_
      obtain ⟨c19, h⟩ := h
      refine ga_newa zp182 rfl rfl c19 (by decide) ?_
      let o20 : Int := zNc w12
      replace h := h o20 rfl
      let w22 : zWt := zwp w12 (100 + 2) (Int.toNat 2147483647)
      replace h := h w22 rfl
      let H24 : zHt := znew H16 (zNc w12) (fun _ => 0)
      replace h := h H24 rfl
      refine ga_goto zp182 rfl ?_
      obtain ⟨c26, h⟩ := h
      refine ga_putS zp182 rfl rfl c26 ⟨rfl, by decide⟩ rfl ?_
      let H27 : zHt := zup H24 l0 0 o20
      replace h := h H27 rfl
      refine ga_al zp182 rfl rfl rfl c13 ?_
      obtain ⟨c29, h⟩ := h
      refine ga_al zp182 rfl rfl rfl c29 ?_
      refine ga_callR (as := [zR l0, zR l1]) (rest := []) zp182 rfl rfl (Nat.succ_pos _) rfl rfl (Nat.le_of_ble_eq_true rfl) (Nat.le_of_ble_eq_true rfl) (zrecv_of c26.2 rfl) rfl h (fun x31 w32 H30 h => ?_)
      refine ga_pop zp182 rfl rfl rfl ?_
      exact ga_ret zp182 rfl rfl ⟨rfl, h⟩
  · replace h := h.2 c7
    refine ga_il zp182 rfl rfl rfl ?_
    refine ga_ic zp182 rfl rfl ?_
    refine ga_ar (r := w32 (x5 + 16)) zp182 rfl rfl rfl ?_
    refine ga_goto zp182 rfl ?_
    refine ga_is (ls' := [zR l0, zR l1, zI x5, zI (w32 (x5 + 16)), zJ]) zp182 rfl rfl (Nat.le_of_ble_eq_true rfl) rfl ?_
    obtain ⟨c33, h⟩ := h
    refine ga_al zp182 rfl rfl rfl c33 ?_
    obtain ⟨c34, h⟩ := h
    refine ga_callI (as := [zR l1]) (rest := []) zp182 rfl rfl (Nat.succ_pos _) rfl rfl (Nat.le_of_ble_eq_true rfl) (Nat.le_of_ble_eq_true rfl) (zrecvT c34 rfl) rfl h (fun x36 w37 H35 h => ?_)
    refine ga_is (ls' := [zR l0, zR l1, zI x5, zI (w32 (x5 + 16)), zI x36]) zp182 rfl rfl (Nat.le_of_ble_eq_true rfl) rfl ?_
    obtain ⟨c38, h⟩ := h
    refine ga_al zp182 rfl rfl rfl c38 ?_
    refine ga_il zp182 rfl rfl rfl ?_
    obtain ⟨c39, h⟩ := h
    obtain ⟨c40, h⟩ := h
    refine ga_putS zp182 rfl rfl c39 ⟨rfl, by decide⟩ (by show (0 == 0 && zb8 _) = true; rw [c40]; rfl) ?_
    let H41 : zHt := zup H35 l0 1 x36
    replace h := h H41 rfl
    refine ga_al zp182 rfl rfl rfl c38 ?_
    refine ga_il zp182 rfl rfl rfl ?_
    refine ga_if zp182 rfl rfl zc1 (fun c43 => ?_) (fun c43 => ?_)
    · replace h := h.1 c43
      refine ga_il zp182 rfl rfl rfl ?_
      exact h.elim
    · replace h := h.2 c43
      refine ga_il zp182 rfl rfl rfl ?_
      obtain ⟨c44, h⟩ := h
      refine ga_newa zp182 rfl rfl c44 (by decide) ?_
      let o45 : Int := zNc w37
      replace h := h o45 rfl
      let w47 : zWt := zwp w37 (100 + 2) (Int.toNat (w32 (x5 + 16)))
      replace h := h w47 rfl
      let H49 : zHt := znew H41 (zNc w37) (fun _ => 0)
      replace h := h H49 rfl
      refine ga_goto zp182 rfl ?_
      obtain ⟨c51, h⟩ := h
      refine ga_putS zp182 rfl rfl c51 ⟨rfl, by decide⟩ rfl ?_
      let H52 : zHt := zup H49 l0 0 o45
      replace h := h H52 rfl
      refine ga_al zp182 rfl rfl rfl c38 ?_
      obtain ⟨c54, h⟩ := h
      refine ga_al zp182 rfl rfl rfl c54 ?_
      refine ga_callR (as := [zR l0, zR l1]) (rest := []) zp182 rfl rfl (Nat.succ_pos _) rfl rfl (Nat.le_of_ble_eq_true rfl) (Nat.le_of_ble_eq_true rfl) (zrecv_of c51.2 rfl) rfl h (fun x56 w57 H55 h => ?_)
      refine ga_pop zp182 rfl rfl rfl ?_
      exact ga_ret zp182 rfl rfl ⟨rfl, h⟩
theorem zp183 : zprog.getD 183 [] = zk183 := rfl
theorem xa183_0 {w : zWt} {d : Nat} {H : zHt} {K : Int → zWt → zHt → Prop} {l0 : Int} {l1 : Int}
    (h : ((0 : Int) ≤ l0) ∧ ((0 : Int) ≤ l1) ∧ (zSh w l0 6 4) ∧ zcaR w d 184 [zR l0, zR l1] H (fun x5 w6 H4 => ((0 : Int) ≤ x5) ∧ K x5 w6 H4)) :
    zcaR w (d + 1) 183 [zR l0, zR l1] H K := by
  show zga w (d + 1) 183 0 [zR l0, zR l1] [] H (zQaR K)
  obtain ⟨c1, h⟩ := h
  refine ga_al zp183 rfl rfl rfl c1 ?_
  obtain ⟨c2, h⟩ := h
  refine ga_al zp183 rfl rfl rfl c2 ?_
  obtain ⟨c3, h⟩ := h
  refine ga_callR (as := [zR l0, zR l1]) (rest := []) zp183 rfl rfl (Nat.succ_pos _) rfl rfl (Nat.le_of_ble_eq_true rfl) (Nat.le_of_ble_eq_true rfl) (zrecv_of c3.2 rfl) rfl h (fun x5 w6 H4 h => ?_)
  obtain ⟨c7, h⟩ := h
  exact ga_ret zp183 rfl (zret_r c7) ⟨_, rfl, h⟩
theorem zp184 : zprog.getD 184 [] = zk184 := rfl
theorem xa184_0 {w : zWt} {d : Nat} {H : zHt} {K : Int → zWt → zHt → Prop} {l0 : Int} {l1 : Int}
    (h : ((0 : Int) ≤ l0) ∧ ((0 : Int) ≤ l1) ∧ (zSh w l0 6 4) ∧ zcaR w d 185 [zR l0, zR l1] H (fun x5 w6 H4 => ((0 : Int) ≤ l0) ∧ K l0 w6 H4)) :
    zcaR w (d + 1) 184 [zR l0, zR l1] H K := by
  show zga w (d + 1) 184 0 [zR l0, zR l1] [] H (zQaR K)
  obtain ⟨c1, h⟩ := h
  refine ga_al zp184 rfl rfl rfl c1 ?_
  obtain ⟨c2, h⟩ := h
  refine ga_al zp184 rfl rfl rfl c2 ?_
  obtain ⟨c3, h⟩ := h
  refine ga_callR (as := [zR l0, zR l1]) (rest := []) zp184 rfl rfl (Nat.succ_pos _) rfl rfl (Nat.le_of_ble_eq_true rfl) (Nat.le_of_ble_eq_true rfl) (zrecv_of c3.2 rfl) rfl h (fun x5 w6 H4 h => ?_)
  refine ga_pop zp184 rfl rfl rfl ?_
  obtain ⟨c7, h⟩ := h
  refine ga_al zp184 rfl rfl rfl c7 ?_
  exact ga_ret zp184 rfl (zret_r c7) ⟨_, rfl, h⟩
theorem zp185 : zprog.getD 185 [] = zk185 := rfl
theorem xa185_0 {w : zWt} {d : Nat} {H : zHt} {K : Int → zWt → zHt → Prop} {l0 : Int} {l1 : Int}
    (h : ((0 : Int) ≤ l1) ∧ (zIsT w l1) ∧ zcaI w d 23 [zR l1] H (fun x4 w5 H3 => ((0 : Int) ≤ l0) ∧ (zSh w5 l0 6 4) ∧ zcaV w5 d 186 [zR l0, zI (w32 ((H3 l0 3) + x4))] H3 (fun w10 H8 => ((0 : Int) ≤ l0) ∧ (zSh w10 l0 6 4) ∧ ((0 : Int) ≤ l1) ∧ zcaV w10 d 191 [zR l0, zI (H8 l0 3), zR l1] H8 (fun w16 H14 => ((0 : Int) ≤ l0) ∧ (zSh w16 l0 6 4) ∧ (∀ H19 : zHt, H19 = (zup H14 l0 3 (w32 ((H14 l0 3) + x4))) → K l0 w16 H19))))) :
    zcaR w (d + 1) 185 [zR l0, zR l1] H K := by
  show zga w (d + 1) 185 0 [zR l0, zR l1, zJ] [] H (zQaR K)
  obtain ⟨c1, h⟩ := h
  refine ga_al zp185 rfl rfl rfl c1 ?_
  refine ga_nonnull zp185 rfl c1 ?_
  refine ga_al zp185 rfl rfl rfl c1 ?_
  obtain ⟨c2, h⟩ := h
  refine ga_callI (as := [zR l1]) (rest := []) zp185 rfl rfl (Nat.succ_pos _) rfl rfl (Nat.le_of_ble_eq_true rfl) (Nat.le_of_ble_eq_true rfl) (zrecvT c2 rfl) rfl h (fun x4 w5 H3 h => ?_)
  refine ga_is (ls' := [zR l0, zR l1, zI x4]) zp185 rfl rfl (Nat.le_of_ble_eq_true rfl) rfl ?_
  obtain ⟨c6, h⟩ := h
  refine ga_al zp185 rfl rfl rfl c6 ?_
  refine ga_al zp185 rfl rfl rfl c6 ?_
  obtain ⟨c7, h⟩ := h
  refine ga_getS (v := zI (H3 l0 3)) zp185 rfl rfl c7 ⟨rfl, by decide⟩ rfl ?_
  refine ga_il zp185 rfl rfl rfl ?_
  refine ga_ar (r := w32 ((H3 l0 3) + x4)) zp185 rfl rfl rfl ?_
  refine ga_callV (as := [zR l0, zI (w32 ((H3 l0 3) + x4))]) (rest := []) zp185 rfl rfl (Nat.succ_pos _) rfl rfl (Nat.le_of_ble_eq_true rfl) (Nat.le_of_ble_eq_true rfl) (zrecv_of c7.2 rfl) rfl h (fun w10 H8 h => ?_)
  obtain ⟨c11, h⟩ := h
  refine ga_al zp185 rfl rfl rfl c11 ?_
  refine ga_al zp185 rfl rfl rfl c11 ?_
  obtain ⟨c12, h⟩ := h
  refine ga_getS (v := zI (H8 l0 3)) zp185 rfl rfl c12 ⟨rfl, by decide⟩ rfl ?_
  obtain ⟨c13, h⟩ := h
  refine ga_al zp185 rfl rfl rfl c13 ?_
  refine ga_callV (as := [zR l0, zI (H8 l0 3), zR l1]) (rest := []) zp185 rfl rfl (Nat.succ_pos _) rfl rfl (Nat.le_of_ble_eq_true rfl) (Nat.le_of_ble_eq_true rfl) (zrecv_of c12.2 rfl) rfl h (fun w16 H14 h => ?_)
  obtain ⟨c17, h⟩ := h
  refine ga_al zp185 rfl rfl rfl c17 ?_
  refine ga_dup zp185 rfl rfl rfl ?_
  obtain ⟨c18, h⟩ := h
  refine ga_getS (v := zI (H14 l0 3)) zp185 rfl rfl c18 ⟨rfl, by decide⟩ rfl ?_
  refine ga_il zp185 rfl rfl rfl ?_
  refine ga_ar (r := w32 ((H14 l0 3) + x4)) zp185 rfl rfl rfl ?_
  refine ga_putS zp185 rfl rfl c18 ⟨rfl, by decide⟩ rfl ?_
  let H19 : zHt := zup H14 l0 3 (w32 ((H14 l0 3) + x4))
  replace h := h H19 rfl
  refine ga_al zp185 rfl rfl rfl c17 ?_
  exact ga_ret zp185 rfl (zret_r c17) ⟨_, rfl, h⟩
theorem zp186 : zprog.getD 186 [] = zk186 := rfl
theorem xa186_0 {w : zWt} {d : Nat} {H : zHt} {K : zWt → zHt → Prop} {l0 : Int} {l1 : Int}
    (h : ((0 : Int) ≤ l0) ∧ (zSh w l0 6 4) ∧ (zSh w (H l0 0) 102 (zsz w (H l0 0))) ∧ ((w32 (l1 - (zshr (zsz w (H l0 0) : Int) (H l0 1)))) ≤ 0 → K w H) ∧ (0 < (w32 (l1 - (zshr (zsz w (H l0 0) : Int) (H l0 1)))) → zcaI w d 187 [zR l0, zI l1] H (fun x6 w7 H5 => ((0 : Int) ≤ l0) ∧ (zSh w7 l0 6 4) ∧ zcaR w7 d 189 [zR (H l0 0), zI (zshl x6 (H5 l0 1))] H5 (fun x11 w12 H10 => (zSh w12 l0 6 4) ∧ (∀ H14 : zHt, H14 = (zup H10 l0 0 x11) → K w12 H14))))) :
    zcaV w (d + 1) 186 [zR l0, zI l1] H K := by
  show zga w (d + 1) 186 0 [zR l0, zI l1, zJ] [] H (zQaV K)
  obtain ⟨c1, h⟩ := h
  refine ga_al zp186 rfl rfl rfl c1 ?_
  obtain ⟨c2, h⟩ := h
  refine ga_getS (v := zR (H l0 0)) zp186 rfl rfl c2 ⟨rfl, by decide⟩ rfl ?_
  obtain ⟨c3, h⟩ := h
  refine ga_lenS zp186 rfl rfl c3 (by decide) ?_
  refine ga_al zp186 rfl rfl rfl c1 ?_
  refine ga_getS (v := zI (H l0 1)) zp186 rfl rfl c2 ⟨rfl, by decide⟩ rfl ?_
  refine ga_ar (r := zshr (zsz w (H l0 0) : Int) (H l0 1)) zp186 rfl rfl rfl ?_
  refine ga_is (ls' := [zR l0, zI l1, zI (zshr (zsz w (H l0 0) : Int) (H l0 1))]) zp186 rfl rfl (Nat.le_of_ble_eq_true rfl) rfl ?_
  refine ga_il zp186 rfl rfl rfl ?_
  refine ga_il zp186 rfl rfl rfl ?_
  refine ga_ar (r := w32 (l1 - (zshr (zsz w (H l0 0) : Int) (H l0 1)))) zp186 rfl rfl rfl ?_
  refine ga_if zp186 rfl rfl zc5 (fun c4 => ?_) (fun c4 => ?_)
  · replace h := h.1 c4
    exact ga_ret zp186 rfl rfl ⟨rfl, h⟩
  · replace h := h.2 c4
    refine ga_al zp186 rfl rfl rfl c1 ?_
    refine ga_al zp186 rfl rfl rfl c1 ?_
    refine ga_getS (v := zR (H l0 0)) zp186 rfl rfl c2 ⟨rfl, by decide⟩ rfl ?_
    refine ga_al zp186 rfl rfl rfl c1 ?_
    refine ga_il zp186 rfl rfl rfl ?_
    refine ga_callI (as := [zR l0, zI l1]) (rest := [zR (H l0 0), zR l0]) zp186 rfl rfl (Nat.succ_pos _) rfl rfl (Nat.le_of_ble_eq_true rfl) (Nat.le_of_ble_eq_true rfl) (zrecv_of c2.2 rfl) rfl h (fun x6 w7 H5 h => ?_)
    obtain ⟨c8, h⟩ := h
    refine ga_al zp186 rfl rfl rfl c8 ?_
    obtain ⟨c9, h⟩ := h
    refine ga_getS (v := zI (H5 l0 1)) zp186 rfl rfl c9 ⟨rfl, by decide⟩ rfl ?_
    refine ga_ar (r := zshl x6 (H5 l0 1)) zp186 rfl rfl rfl ?_
    refine ga_callR (as := [zR (H l0 0), zI (zshl x6 (H5 l0 1))]) (rest := [zR l0]) zp186 rfl rfl (Nat.succ_pos _) rfl rfl (Nat.le_of_ble_eq_true rfl) (Nat.le_of_ble_eq_true rfl) rfl rfl h (fun x11 w12 H10 h => ?_)
    obtain ⟨c13, h⟩ := h
    refine ga_putS zp186 rfl rfl c13 ⟨rfl, by decide⟩ rfl ?_
    let H14 : zHt := zup H10 l0 0 x11
    replace h := h H14 rfl
    exact ga_ret zp186 rfl rfl ⟨rfl, h⟩
theorem zp187 : zprog.getD 187 [] = zk187 := rfl
theorem xa187_0 {w : zWt} {d : Nat} {H : zHt} {K : Int → zWt → zHt → Prop} {l0 : Int} {l1 : Int}
    (h : ((0 : Int) ≤ l0) ∧ (zSh w l0 6 4) ∧ (zSh w (H l0 0) 102 (zsz w (H l0 0))) ∧ zcaI w d 188 [zI (zsz w (H l0 0) : Int), zI (w32 ((zshl l1 (H l0 1)) - (zsz w (H l0 0) : Int))), zI (w32 ((zsz w (H l0 0) : Int) + (zshl 2 (H l0 1))))] H (fun x5 w6 H4 => (¬ x5 = 2147483647 → ((0 : Int) ≤ l0) ∧ (zSh w6 l0 6 4) ∧ K (zshr x5 (H4 l0 1)) w6 H4) ∧ (x5 = 2147483647 → False))) :
    zcaI w (d + 1) 187 [zR l0, zI l1] H K := by
  show zga w (d + 1) 187 0 [zR l0, zI l1, zJ, zJ, zJ, zJ] [] H (zQaI K)
  obtain ⟨c1, h⟩ := h
  refine ga_al zp187 rfl rfl rfl c1 ?_
  obtain ⟨c2, h⟩ := h
  refine ga_getS (v := zR (H l0 0)) zp187 rfl rfl c2 ⟨rfl, by decide⟩ rfl ?_
  obtain ⟨c3, h⟩ := h
  refine ga_lenS zp187 rfl rfl c3 (by decide) ?_
  refine ga_is (ls' := [zR l0, zI l1, zI (zsz w (H l0 0) : Int), zJ, zJ, zJ]) zp187 rfl rfl (Nat.le_of_ble_eq_true rfl) rfl ?_
  refine ga_il zp187 rfl rfl rfl ?_
  refine ga_al zp187 rfl rfl rfl c1 ?_
  refine ga_getS (v := zI (H l0 1)) zp187 rfl rfl c2 ⟨rfl, by decide⟩ rfl ?_
  refine ga_ar (r := zshl l1 (H l0 1)) zp187 rfl rfl rfl ?_
  refine ga_is (ls' := [zR l0, zI l1, zI (zsz w (H l0 0) : Int), zI (zshl l1 (H l0 1)), zJ, zJ]) zp187 rfl rfl (Nat.le_of_ble_eq_true rfl) rfl ?_
  refine ga_il zp187 rfl rfl rfl ?_
  refine ga_il zp187 rfl rfl rfl ?_
  refine ga_ar (r := w32 ((zshl l1 (H l0 1)) - (zsz w (H l0 0) : Int))) zp187 rfl rfl rfl ?_
  refine ga_is (ls' := [zR l0, zI l1, zI (zsz w (H l0 0) : Int), zI (zshl l1 (H l0 1)), zI (w32 ((zshl l1 (H l0 1)) - (zsz w (H l0 0) : Int))), zJ]) zp187 rfl rfl (Nat.le_of_ble_eq_true rfl) rfl ?_
  refine ga_il zp187 rfl rfl rfl ?_
  refine ga_il zp187 rfl rfl rfl ?_
  refine ga_il zp187 rfl rfl rfl ?_
  refine ga_ic zp187 rfl rfl ?_
  refine ga_al zp187 rfl rfl rfl c1 ?_
  refine ga_getS (v := zI (H l0 1)) zp187 rfl rfl c2 ⟨rfl, by decide⟩ rfl ?_
  refine ga_ar (r := zshl 2 (H l0 1)) zp187 rfl rfl rfl ?_
  refine ga_ar (r := w32 ((zsz w (H l0 0) : Int) + (zshl 2 (H l0 1)))) zp187 rfl rfl rfl ?_
  refine ga_callI (as := [zI (zsz w (H l0 0) : Int), zI (w32 ((zshl l1 (H l0 1)) - (zsz w (H l0 0) : Int))), zI (w32 ((zsz w (H l0 0) : Int) + (zshl 2 (H l0 1))))]) (rest := []) zp187 rfl rfl (Nat.succ_pos _) rfl rfl (Nat.le_of_ble_eq_true rfl) (Nat.le_of_ble_eq_true rfl) rfl rfl h (fun x5 w6 H4 h => ?_)
  refine ga_is (ls' := [zR l0, zI l1, zI (zsz w (H l0 0) : Int), zI (zshl l1 (H l0 1)), zI (w32 ((zshl l1 (H l0 1)) - (zsz w (H l0 0) : Int))), zI x5]) zp187 rfl rfl (Nat.le_of_ble_eq_true rfl) rfl ?_
  refine ga_il zp187 rfl rfl rfl ?_
  refine ga_ic zp187 rfl rfl ?_
  refine ga_icmp zp187 rfl rfl zc1 (fun c7 => ?_) (fun c7 => ?_)
  · replace h := h.1 c7
    refine ga_il zp187 rfl rfl rfl ?_
    obtain ⟨c8, h⟩ := h
    refine ga_al zp187 rfl rfl rfl c8 ?_
    obtain ⟨c9, h⟩ := h
    refine ga_getS (v := zI (H4 l0 1)) zp187 rfl rfl c9 ⟨rfl, by decide⟩ rfl ?_
    refine ga_ar (r := zshr x5 (H4 l0 1)) zp187 rfl rfl rfl ?_
    exact ga_ret zp187 rfl rfl ⟨_, rfl, h⟩
  · replace h := h.2 c7
    exact h.elim
theorem zp188 : zprog.getD 188 [] = zk188 := rfl
theorem xa188_0 {w : zWt} {d : Nat} {H : zHt} {K : Int → zWt → zHt → Prop} {l0 : Int} {l1 : Int} {l2 : Int}
    (h : ∀ v1 : Int, v1 = (if l1 < l2 then l2 else l1) → ((w32 (l0 + v1)) ≤ 0 → False) ∧ (0 < (w32 (l0 + v1)) → (2147483639 < (w32 (l0 + v1)) → False) ∧ ((w32 (l0 + v1)) ≤ 2147483639 → K (w32 (l0 + v1)) w H))) :
    zcaI w d 188 [zI l0, zI l1, zI l2] H K := by
  show zga w d 188 0 [zI l0, zI l1, zI l2, zJ] [] H (zQaI K)
  refine ga_il zp188 rfl rfl rfl ?_
  refine ga_il zp188 rfl rfl rfl ?_
  refine ga_il zp188 rfl rfl rfl ?_
  refine ga_mmax zp188 rfl rfl (Nat.le_of_ble_eq_true rfl) ?_
  let v1 : Int := if l1 < l2 then l2 else l1
  replace h := h v1 rfl
  refine ga_ar (r := w32 (l0 + v1)) zp188 rfl rfl rfl ?_
  refine ga_is (ls' := [zI l0, zI l1, zI l2, zI (w32 (l0 + v1))]) zp188 rfl rfl (Nat.le_of_ble_eq_true rfl) rfl ?_
  refine ga_ic zp188 rfl rfl ?_
  refine ga_il zp188 rfl rfl rfl ?_
  refine ga_icmp zp188 rfl rfl zc3 (fun c3 => ?_) (fun c3 => ?_)
  · replace h := h.1 c3
    refine ga_il zp188 rfl rfl rfl ?_
    refine ga_il zp188 rfl rfl rfl ?_
    exact h.elim
  · replace h := h.2 c3
    refine ga_il zp188 rfl rfl rfl ?_
    refine ga_ic zp188 rfl rfl ?_
    refine ga_icmp zp188 rfl rfl zc4 (fun c4 => ?_) (fun c4 => ?_)
    · replace h := h.1 c4
      refine ga_il zp188 rfl rfl rfl ?_
      refine ga_il zp188 rfl rfl rfl ?_
      exact h.elim
    · replace h := h.2 c4
      refine ga_il zp188 rfl rfl rfl ?_
      exact ga_ret zp188 rfl rfl ⟨_, rfl, h⟩
theorem zp189 : zprog.getD 189 [] = zk189 := rfl
theorem xa189_0 {w : zWt} {d : Nat} {H : zHt} {K : Int → zWt → zHt → Prop} {l0 : Int} {l1 : Int}
    (h : ((0 : Int) ≤ l0) ∧ (zSh w l0 102 (zsz w l0)) ∧ (¬ l1 = (zsz w l0 : Int) → ((0 : Int) ≤ l1 ∧ l1 ≤ (100000 : Int)) ∧ (∀ o5 : Int, o5 = (zNc w) → ∀ w7 : zWt, w7 = (zwp w (100 + 2) (Int.toNat l1)) → ∀ H9 : zHt, H9 = (znew H (zNc w) (fun _ => 0)) → ((0 : Int) ≤ o5) ∧ (zSh w7 l0 102 (zsz w7 l0)) ∧ (∀ v13 : Int, v13 = (if l1 < (zsz w7 l0 : Int) then l1 else (zsz w7 l0 : Int)) → (zIsB w7 l0) ∧ (zSh w7 o5 102 (zsz w7 o5)) ∧ ((0 : Int) ≤ 0 ∧ (0 : Int) ≤ 0 ∧ (0 : Int) ≤ v13 ∧ 0 + v13 ≤ (zsz w7 l0 : Int) ∧ 0 + v13 ≤ (zsz w7 o5 : Int)) ∧ (∀ j : Nat, (j : Int) < v13 → zb8 (zM w7 H9 l0 (0 + j)) = true) ∧ (∀ H19 : zHt, H19 = (zcpy H9 o5 0 v13 (fun j => zM w7 H9 l0 (0 + j))) → K o5 w7 H19)))) ∧ (l1 = (zsz w l0 : Int) → (∀ j : Nat, j < zsz w l0 → zb8 (H l0 j) = true) ∧ (∀ o22 : Int, o22 = (zNc w) → ∀ w24 : zWt, w24 = (zwp w 102 (zsz w l0)) → ∀ H26 : zHt, H26 = (znew H (zNc w) (H l0)) → (zSh w24 o22 102 (zsz w24 o22)) ∧ ((0 : Int) ≤ o22) ∧ K o22 w24 H26))) :
    zcaR w d 189 [zR l0, zI l1] H K := by
  show zga w d 189 0 [zR l0, zI l1, zJ] [] H (zQaR K)
  refine ga_il zp189 rfl rfl rfl ?_
  obtain ⟨c1, h⟩ := h
  refine ga_al zp189 rfl rfl rfl c1 ?_
  obtain ⟨c2, h⟩ := h
  refine ga_lenS zp189 rfl rfl c2 (by decide) ?_
  refine ga_icmp zp189 rfl rfl zc1 (fun c3 => ?_) (fun c3 => ?_)
  · replace h := h.1 c3
    refine ga_il zp189 rfl rfl rfl ?_
    obtain ⟨c4, h⟩ := h
    refine ga_newa zp189 rfl rfl c4 (by decide) ?_
    let o5 : Int := zNc w
    replace h := h o5 rfl
    let w7 : zWt := zwp w (100 + 2) (Int.toNat l1)
    replace h := h w7 rfl
    let H9 : zHt := znew H (zNc w) (fun _ => 0)
    replace h := h H9 rfl
    obtain ⟨c11, h⟩ := h
    refine ga_as (ls' := [zR l0, zI l1, zR o5]) zp189 rfl rfl (Nat.le_of_ble_eq_true rfl) c11 rfl ?_
    refine ga_al zp189 rfl rfl rfl c1 ?_
    refine ga_ic zp189 rfl rfl ?_
    refine ga_al zp189 rfl rfl rfl c11 ?_
    refine ga_ic zp189 rfl rfl ?_
    refine ga_al zp189 rfl rfl rfl c1 ?_
    obtain ⟨c12, h⟩ := h
    refine ga_lenS zp189 rfl rfl c12 (by decide) ?_
    refine ga_il zp189 rfl rfl rfl ?_
    refine ga_mmin zp189 rfl rfl (Nat.le_of_ble_eq_true rfl) ?_
    let v13 : Int := if l1 < (zsz w7 l0 : Int) then l1 else (zsz w7 l0 : Int)
    replace h := h v13 rfl
    obtain ⟨c15, h⟩ := h
    obtain ⟨c16, h⟩ := h
    obtain ⟨c17, h⟩ := h
    obtain ⟨c18, h⟩ := h
    refine ga_acopy zp189 rfl rfl c15 c16 c17 c18 ?_
    let H19 : zHt := zcpy H9 o5 0 v13 (fun j => zM w7 H9 l0 (0 + j))
    replace h := h H19 rfl
    refine ga_al zp189 rfl rfl rfl c11 ?_
    exact ga_ret zp189 rfl (zret_r c11) ⟨_, rfl, h⟩
  · replace h := h.2 c3
    refine ga_al zp189 rfl rfl rfl c1 ?_
    obtain ⟨c21, h⟩ := h
    refine ga_clone zp189 rfl rfl c2 (Nat.le_of_ble_eq_true rfl) c21 ?_
    let o22 : Int := zNc w
    replace h := h o22 rfl
    let w24 : zWt := zwp w 102 (zsz w l0)
    replace h := h w24 rfl
    let H26 : zHt := znew H (zNc w) (H l0)
    replace h := h H26 rfl
    obtain ⟨c28, h⟩ := h
    refine ga_cast zp189 rfl rfl c28 ?_
    obtain ⟨c29, h⟩ := h
    exact ga_ret zp189 rfl (zret_r c29) ⟨_, rfl, h⟩
theorem zp190 : zprog.getD 190 [] = zk190 := rfl
theorem xa190_0 {w : zWt} {d : Nat} {H : zHt} {K : Int → zWt → zHt → Prop} {l0 : Int}
    (h : ((0 : Int) ≤ l0) ∧ (zSh w l0 6 4) ∧ (¬ (H l0 1) = 0 → K 0 w H) ∧ ((H l0 1) = 0 → K 1 w H)) :
    zcaI w d 190 [zR l0] H K := by
  show zga w d 190 0 [zR l0] [] H (zQaI K)
  refine ga_stat (v := zI 1) zp190 rfl rfl rfl ?_
  refine ga_if zp190 rfl rfl zc0 (fun c1 => ?_) (fun c1 => ?_)
  · exact absurd c1 (by decide)
  · obtain ⟨c2, h⟩ := h
    refine ga_al zp190 rfl rfl rfl c2 ?_
    obtain ⟨c3, h⟩ := h
    refine ga_getS (v := zI (H l0 1)) zp190 rfl rfl c3 ⟨rfl, by decide⟩ rfl ?_
    refine ga_if zp190 rfl rfl zc1 (fun c4 => ?_) (fun c4 => ?_)
    · replace h := h.1 c4
      refine ga_ic zp190 rfl rfl ?_
      exact ga_ret zp190 rfl (zret_b (by decide)) ⟨_, rfl, h⟩
    · replace h := h.2 c4
      refine ga_ic zp190 rfl rfl ?_
      refine ga_goto zp190 rfl ?_
      exact ga_ret zp190 rfl (zret_b (by decide)) ⟨_, rfl, h⟩
theorem zp191 : zprog.getD 191 [] = zk191 := rfl
theorem xa191_0 {w : zWt} {d : Nat} {H : zHt} {K : zWt → zHt → Prop} {l0 : Int} {l1 : Int} {l2 : Int}
    (h : ((0 : Int) ≤ l0) ∧ ((0 : Int) ≤ l2) ∧ (zSh w l0 6 4) ∧ zcaV w d 192 [zR l0, zR l2] H (fun w6 H4 => ((0 : Int) ≤ l2) ∧ ((0 : Int) ≤ l0) ∧ (zSh w6 l0 6 4) ∧ (zIsT w6 l2) ∧ zcaV w6 d 193 [zR l2, zR (H4 l0 0), zI l1, zI (H4 l0 1)] H4 (fun w13 H11 => K w13 H11))) :
    zcaV w (d + 1) 191 [zR l0, zI l1, zR l2] H K := by
  show zga w (d + 1) 191 0 [zR l0, zI l1, zR l2] [] H (zQaV K)
  obtain ⟨c1, h⟩ := h
  refine ga_al zp191 rfl rfl rfl c1 ?_
  obtain ⟨c2, h⟩ := h
  refine ga_al zp191 rfl rfl rfl c2 ?_
  obtain ⟨c3, h⟩ := h
  refine ga_callV (as := [zR l0, zR l2]) (rest := []) zp191 rfl rfl (Nat.succ_pos _) rfl rfl (Nat.le_of_ble_eq_true rfl) (Nat.le_of_ble_eq_true rfl) (zrecv_of c3.2 rfl) rfl h (fun w6 H4 h => ?_)
  obtain ⟨c7, h⟩ := h
  refine ga_al zp191 rfl rfl rfl c7 ?_
  obtain ⟨c8, h⟩ := h
  refine ga_al zp191 rfl rfl rfl c8 ?_
  obtain ⟨c9, h⟩ := h
  refine ga_getS (v := zR (H4 l0 0)) zp191 rfl rfl c9 ⟨rfl, by decide⟩ rfl ?_
  refine ga_il zp191 rfl rfl rfl ?_
  refine ga_al zp191 rfl rfl rfl c8 ?_
  refine ga_getS (v := zI (H4 l0 1)) zp191 rfl rfl c9 ⟨rfl, by decide⟩ rfl ?_
  obtain ⟨c10, h⟩ := h
  refine ga_callV (as := [zR l2, zR (H4 l0 0), zI l1, zI (H4 l0 1)]) (rest := []) zp191 rfl rfl (Nat.succ_pos _) rfl rfl (Nat.le_of_ble_eq_true rfl) (Nat.le_of_ble_eq_true rfl) (zrecvT c10 rfl) rfl h (fun w13 H11 h => ?_)
  exact ga_ret zp191 rfl rfl ⟨rfl, h⟩
theorem zp192 : zprog.getD 192 [] = zk192 := rfl
theorem xa192_0 {w : zWt} {d : Nat} {H : zHt} {K : zWt → zHt → Prop} {l0 : Int} {l1 : Int}
    (h : ((0 : Int) ≤ l0) ∧ (zSh w l0 6 4) ∧ ((0 : Int) ≤ l1) ∧ (zIsT w l1) ∧ zcaI w d 24 [zR l1] H (fun x7 w8 H6 => ((H l0 1) = x7 → K w8 H6) ∧ (¬ (H l0 1) = x7 → ((0 : Int) ≤ l0) ∧ False))) :
    zcaV w (d + 1) 192 [zR l0, zR l1] H K := by
  show zga w (d + 1) 192 0 [zR l0, zR l1] [] H (zQaV K)
  refine ga_stat (v := zI 1) zp192 rfl rfl rfl ?_
  refine ga_if zp192 rfl rfl zc0 (fun c1 => ?_) (fun c1 => ?_)
  · exact absurd c1 (by decide)
  · obtain ⟨c2, h⟩ := h
    refine ga_al zp192 rfl rfl rfl c2 ?_
    obtain ⟨c3, h⟩ := h
    refine ga_getS (v := zI (H l0 1)) zp192 rfl rfl c3 ⟨rfl, by decide⟩ rfl ?_
    obtain ⟨c4, h⟩ := h
    refine ga_al zp192 rfl rfl rfl c4 ?_
    obtain ⟨c5, h⟩ := h
    refine ga_callI (as := [zR l1]) (rest := [zI (H l0 1)]) zp192 rfl rfl (Nat.succ_pos _) rfl rfl (Nat.le_of_ble_eq_true rfl) (Nat.le_of_ble_eq_true rfl) (zrecvT c5 rfl) rfl h (fun x7 w8 H6 h => ?_)
    refine ga_icmp zp192 rfl rfl zc0 (fun c9 => ?_) (fun c9 => ?_)
    · replace h := h.1 c9
      exact ga_ret zp192 rfl rfl ⟨rfl, h⟩
    · replace h := h.2 c9
      obtain ⟨c10, h⟩ := h
      refine ga_al zp192 rfl rfl rfl c10 ?_
      exact h.elim
theorem zp193 : zprog.getD 193 [] = zk193 := rfl
theorem xa193_0 {w : zWt} {d : Nat} {H : zHt} {K : zWt → zHt → Prop} {l0 : Int} {l1 : Int} {l2 : Int} {l3 : Int}
    (h : ((0 : Int) ≤ l0) ∧ (zIsT w l0) ∧ zcaI w d 24 [zR l0] H (fun x4 w5 H3 => (¬ x4 = l3 → ((0 : Int) ≤ l0) ∧ (zIsT w5 l0) ∧ ((0 : Int) ≤ l1) ∧ (zIsB w5 (zTv H3 l0)) ∧ False) ∧ (x4 = l3 → ((0 : Int) ≤ l0) ∧ (zIsT w5 l0) ∧ ((0 : Int) ≤ l1) ∧ (zIsB w5 (zTv H3 l0)) ∧ (zSh w5 l1 102 (zsz w5 l1)) ∧ ((0 : Int) ≤ 0 ∧ (0 : Int) ≤ (zshl l2 l3) ∧ (0 : Int) ≤ (zsz w5 (zTv H3 l0) : Int) ∧ 0 + (zsz w5 (zTv H3 l0) : Int) ≤ (zsz w5 (zTv H3 l0) : Int) ∧ (zshl l2 l3) + (zsz w5 (zTv H3 l0) : Int) ≤ (zsz w5 l1 : Int)) ∧ (∀ j : Nat, (j : Int) < (zsz w5 (zTv H3 l0) : Int) → zb8 (zM w5 H3 (zTv H3 l0) (0 + j)) = true) ∧ (∀ H18 : zHt, H18 = (zcpy H3 l1 (zshl l2 l3) (zsz w5 (zTv H3 l0) : Int) (fun j => zM w5 H3 (zTv H3 l0) (0 + j))) → K w5 H18)))) :
    zcaV w (d + 1) 193 [zR l0, zR l1, zI l2, zI l3] H K := by
  show zga w (d + 1) 193 0 [zR l0, zR l1, zI l2, zI l3] [] H (zQaV K)
  obtain ⟨c1, h⟩ := h
  refine ga_al zp193 rfl rfl rfl c1 ?_
  obtain ⟨c2, h⟩ := h
  refine ga_callI (as := [zR l0]) (rest := []) zp193 rfl rfl (Nat.succ_pos _) rfl rfl (Nat.le_of_ble_eq_true rfl) (Nat.le_of_ble_eq_true rfl) (zrecvT c2 rfl) rfl h (fun x4 w5 H3 h => ?_)
  refine ga_il zp193 rfl rfl rfl ?_
  refine ga_icmp zp193 rfl rfl zc1 (fun c6 => ?_) (fun c6 => ?_)
  · replace h := h.1 c6
    obtain ⟨c7, h⟩ := h
    refine ga_al zp193 rfl rfl rfl c7 ?_
    obtain ⟨c8, h⟩ := h
    refine ga_sgetV zp193 rfl rfl c8 ?_
    refine ga_ic zp193 rfl rfl ?_
    obtain ⟨c9, h⟩ := h
    refine ga_al zp193 rfl rfl rfl c9 ?_
    refine ga_il zp193 rfl rfl rfl ?_
    refine ga_al zp193 rfl rfl rfl c7 ?_
    refine ga_sgetV zp193 rfl rfl c8 ?_
    obtain ⟨c10, h⟩ := h
    refine ga_lenB zp193 rfl rfl c10 ?_
    exact h.elim
  · replace h := h.2 c6
    obtain ⟨c11, h⟩ := h
    refine ga_al zp193 rfl rfl rfl c11 ?_
    obtain ⟨c12, h⟩ := h
    refine ga_sgetV zp193 rfl rfl c12 ?_
    refine ga_ic zp193 rfl rfl ?_
    obtain ⟨c13, h⟩ := h
    refine ga_al zp193 rfl rfl rfl c13 ?_
    refine ga_il zp193 rfl rfl rfl ?_
    refine ga_il zp193 rfl rfl rfl ?_
    refine ga_ar (r := zshl l2 l3) zp193 rfl rfl rfl ?_
    refine ga_al zp193 rfl rfl rfl c11 ?_
    refine ga_sgetV zp193 rfl rfl c12 ?_
    obtain ⟨c14, h⟩ := h
    refine ga_lenB zp193 rfl rfl c14 ?_
    obtain ⟨c15, h⟩ := h
    obtain ⟨c16, h⟩ := h
    obtain ⟨c17, h⟩ := h
    refine ga_acopy zp193 rfl rfl c14 c15 c16 c17 ?_
    let H18 : zHt := zcpy H3 l1 (zshl l2 l3) (zsz w5 (zTv H3 l0) : Int) (fun j => zM w5 H3 (zTv H3 l0) (0 + j))
    replace h := h H18 rfl
    refine ga_goto zp193 rfl ?_
    exact ga_ret zp193 rfl rfl ⟨rfl, h⟩
theorem zp194 : zprog.getD 194 [] = zk194 := rfl
theorem xa194_0 {w : zWt} {d : Nat} {H : zHt} {K : Int → zWt → zHt → Prop} {l0 : Int} {l1 : Int}
    (h : ((0 : Int) ≤ l0) ∧ (zSh w l0 6 4) ∧ zcaR w d 195 [zR l0, zI l1] H (fun x4 w5 H3 => ((0 : Int) ≤ l0) ∧ K l0 w5 H3)) :
    zcaR w (d + 1) 194 [zR l0, zI l1] H K := by
  show zga w (d + 1) 194 0 [zR l0, zI l1] [] H (zQaR K)
  obtain ⟨c1, h⟩ := h
  refine ga_al zp194 rfl rfl rfl c1 ?_
  refine ga_il zp194 rfl rfl rfl ?_
  obtain ⟨c2, h⟩ := h
  refine ga_callR (as := [zR l0, zI l1]) (rest := []) zp194 rfl rfl (Nat.succ_pos _) rfl rfl (Nat.le_of_ble_eq_true rfl) (Nat.le_of_ble_eq_true rfl) (zrecv_of c2.2 rfl) rfl h (fun x4 w5 H3 h => ?_)
  refine ga_pop zp194 rfl rfl rfl ?_
  obtain ⟨c6, h⟩ := h
  refine ga_al zp194 rfl rfl rfl c6 ?_
  exact ga_ret zp194 rfl (zret_r c6) ⟨_, rfl, h⟩
theorem zp195 : zprog.getD 195 [] = zk195 := rfl
theorem xa195_0 {w : zWt} {d : Nat} {H : zHt} {K : Int → zWt → zHt → Prop} {l0 : Int} {l1 : Int}
    (h : ((0 : Int) ≤ l0) ∧ (zSh w l0 6 4) ∧ zcaI w d 196 [zI l1] H (fun x4 w5 H3 => ((0 : Int) ≤ l0) ∧ (zSh w5 l0 6 4) ∧ zcaV w5 d 186 [zR l0, zI (w32 ((H l0 3) + x4))] H3 (fun w10 H8 => ((0 : Int) ≤ l0) ∧ (zSh w10 l0 6 4) ∧ zcaI w10 d 190 [zR l0] H8 (fun x14 w15 H13 => (x14 = 0 → ((0 : Int) ≤ l0) ∧ (zSh w15 l0 6 4) ∧ False) ∧ (¬ x14 = 0 → ((0 : Int) ≤ l0) ∧ (zSh w15 l0 6 4) ∧ zcaI w15 d 197 [zI l1, zI (w32 ((H l0 3) + x4)), zR (H13 l0 0)] H13 (fun x22 w23 H21 => ((0 : Int) ≤ l0) ∧ (zSh w23 l0 6 4) ∧ (∀ H26 : zHt, H26 = (zup H21 l0 3 (w32 ((H l0 3) + x4))) → K l0 w23 H26))))))) :
    zcaR w (d + 1) 195 [zR l0, zI l1] H K := by
  show zga w (d + 1) 195 0 [zR l0, zI l1, zJ, zJ] [] H (zQaR K)
  obtain ⟨c1, h⟩ := h
  refine ga_al zp195 rfl rfl rfl c1 ?_
  obtain ⟨c2, h⟩ := h
  refine ga_getS (v := zI (H l0 3)) zp195 rfl rfl c2 ⟨rfl, by decide⟩ rfl ?_
  refine ga_is (ls' := [zR l0, zI l1, zI (H l0 3), zJ]) zp195 rfl rfl (Nat.le_of_ble_eq_true rfl) rfl ?_
  refine ga_il zp195 rfl rfl rfl ?_
  refine ga_il zp195 rfl rfl rfl ?_
  refine ga_callI (as := [zI l1]) (rest := [zI (H l0 3)]) zp195 rfl rfl (Nat.succ_pos _) rfl rfl (Nat.le_of_ble_eq_true rfl) (Nat.le_of_ble_eq_true rfl) rfl rfl h (fun x4 w5 H3 h => ?_)
  refine ga_ar (r := w32 ((H l0 3) + x4)) zp195 rfl rfl rfl ?_
  refine ga_is (ls' := [zR l0, zI l1, zI (H l0 3), zI (w32 ((H l0 3) + x4))]) zp195 rfl rfl (Nat.le_of_ble_eq_true rfl) rfl ?_
  obtain ⟨c6, h⟩ := h
  refine ga_al zp195 rfl rfl rfl c6 ?_
  refine ga_il zp195 rfl rfl rfl ?_
  obtain ⟨c7, h⟩ := h
  refine ga_callV (as := [zR l0, zI (w32 ((H l0 3) + x4))]) (rest := []) zp195 rfl rfl (Nat.succ_pos _) rfl rfl (Nat.le_of_ble_eq_true rfl) (Nat.le_of_ble_eq_true rfl) (zrecv_of c7.2 rfl) rfl h (fun w10 H8 h => ?_)
  obtain ⟨c11, h⟩ := h
  refine ga_al zp195 rfl rfl rfl c11 ?_
  obtain ⟨c12, h⟩ := h
  refine ga_callI (as := [zR l0]) (rest := []) zp195 rfl rfl (Nat.succ_pos _) rfl rfl (Nat.le_of_ble_eq_true rfl) (Nat.le_of_ble_eq_true rfl) (zrecv_of c12.2 rfl) rfl h (fun x14 w15 H13 h => ?_)
  refine ga_if zp195 rfl rfl zc0 (fun c16 => ?_) (fun c16 => ?_)
  · replace h := h.1 c16
    refine ga_il zp195 rfl rfl rfl ?_
    refine ga_il zp195 rfl rfl rfl ?_
    refine ga_il zp195 rfl rfl rfl ?_
    obtain ⟨c17, h⟩ := h
    refine ga_al zp195 rfl rfl rfl c17 ?_
    obtain ⟨c18, h⟩ := h
    refine ga_getS (v := zR (H13 l0 0)) zp195 rfl rfl c18 ⟨rfl, by decide⟩ rfl ?_
    exact h.elim
  · replace h := h.2 c16
    refine ga_il zp195 rfl rfl rfl ?_
    refine ga_il zp195 rfl rfl rfl ?_
    obtain ⟨c19, h⟩ := h
    refine ga_al zp195 rfl rfl rfl c19 ?_
    obtain ⟨c20, h⟩ := h
    refine ga_getS (v := zR (H13 l0 0)) zp195 rfl rfl c20 ⟨rfl, by decide⟩ rfl ?_
    refine ga_callI (as := [zI l1, zI (w32 ((H l0 3) + x4)), zR (H13 l0 0)]) (rest := []) zp195 rfl rfl (Nat.succ_pos _) rfl rfl (Nat.le_of_ble_eq_true rfl) (Nat.le_of_ble_eq_true rfl) rfl rfl h (fun x22 w23 H21 h => ?_)
    refine ga_pop zp195 rfl rfl rfl ?_
    refine ga_goto zp195 rfl ?_
    obtain ⟨c24, h⟩ := h
    refine ga_al zp195 rfl rfl rfl c24 ?_
    refine ga_il zp195 rfl rfl rfl ?_
    obtain ⟨c25, h⟩ := h
    refine ga_putS zp195 rfl rfl c25 ⟨rfl, by decide⟩ rfl ?_
    let H26 : zHt := zup H21 l0 3 (w32 ((H l0 3) + x4))
    replace h := h H26 rfl
    refine ga_al zp195 rfl rfl rfl c24 ?_
    exact ga_ret zp195 rfl (zret_r c24) ⟨_, rfl, h⟩
theorem zp196 : zprog.getD 196 [] = zk196 := rfl
theorem xa196_0 {w : zWt} {d : Nat} {H : zHt} {K : Int → zWt → zHt → Prop} {l0 : Int}
    (h : (l0 < 0 → zga w d 196 16 [zI l0, zI 1, zI (-10), zI 1] [] H (zQaI K)) ∧ (0 ≤ l0 → zga w d 196 16 [zI (w32 (-l0)), zI 0, zI (-10), zI 1] [] H (zQaI K))) :
    zcaI w d 196 [zI l0] H K := by
  show zga w d 196 0 [zI l0, zJ, zJ, zJ] [] H (zQaI K)
  refine ga_ic zp196 rfl rfl ?_
  refine ga_is (ls' := [zI l0, zI 1, zJ, zJ]) zp196 rfl rfl (Nat.le_of_ble_eq_true rfl) rfl ?_
  refine ga_il zp196 rfl rfl rfl ?_
  refine ga_if zp196 rfl rfl zc2 (fun c1 => ?_) (fun c1 => ?_)
  · replace h := h.1 c1
    refine ga_ic zp196 rfl rfl ?_
    refine ga_is (ls' := [zI l0, zI 1, zI (-10), zJ]) zp196 rfl rfl (Nat.le_of_ble_eq_true rfl) rfl ?_
    refine ga_ic zp196 rfl rfl ?_
    refine ga_is (ls' := [zI l0, zI 1, zI (-10), zI 1]) zp196 rfl rfl (Nat.le_of_ble_eq_true rfl) rfl ?_
    exact ga_weak (ls' := [zI l0, zI 1, zI (-10), zI 1]) ⟨Or.inr rfl, Or.inr rfl, Or.inr rfl, Or.inr rfl, trivial⟩ h
  · replace h := h.2 c1
    refine ga_ic zp196 rfl rfl ?_
    refine ga_is (ls' := [zI l0, zI 0, zJ, zJ]) zp196 rfl rfl (Nat.le_of_ble_eq_true rfl) rfl ?_
    refine ga_il zp196 rfl rfl rfl ?_
    refine ga_neg zp196 rfl rfl ?_
    refine ga_is (ls' := [zI (w32 (-l0)), zI 0, zJ, zJ]) zp196 rfl rfl (Nat.le_of_ble_eq_true rfl) rfl ?_
    refine ga_ic zp196 rfl rfl ?_
    refine ga_is (ls' := [zI (w32 (-l0)), zI 0, zI (-10), zJ]) zp196 rfl rfl (Nat.le_of_ble_eq_true rfl) rfl ?_
    refine ga_ic zp196 rfl rfl ?_
    refine ga_is (ls' := [zI (w32 (-l0)), zI 0, zI (-10), zI 1]) zp196 rfl rfl (Nat.le_of_ble_eq_true rfl) rfl ?_
    exact ga_weak (ls' := [zI (w32 (-l0)), zI 0, zI (-10), zI 1]) ⟨Or.inr rfl, Or.inr rfl, Or.inr rfl, Or.inr rfl, trivial⟩ h
theorem xa196_16 {w : zWt} {d : Nat} {H : zHt} {K : Int → zWt → zHt → Prop} {l0 : Int} {l1 : Int} {l2 : Int} {l3 : Int}
    (h : (10 ≤ l3 → K (w32 (10 + l1)) w H) ∧ (l3 < 10 → (l0 ≤ l2 → zga w d 196 16 [zI l0, zI l1, zI (w32 (10 * l2)), zI (w32 (l3 + 1))] [] H (zQaI K)) ∧ (l2 < l0 → K (w32 (l3 + l1)) w H))) :
    zga w d 196 16 [zI l0, zI l1, zI l2, zI l3] [] H (zQaI K) := by
  refine ga_il zp196 rfl rfl rfl ?_
  refine ga_ic zp196 rfl rfl ?_
  refine ga_icmp zp196 rfl rfl zc3 (fun c1 => ?_) (fun c1 => ?_)
  · replace h := h.1 c1
    refine ga_ic zp196 rfl rfl ?_
    refine ga_il zp196 rfl rfl rfl ?_
    refine ga_ar (r := w32 (10 + l1)) zp196 rfl rfl rfl ?_
    exact ga_ret zp196 rfl rfl ⟨_, rfl, h⟩
  · replace h := h.2 c1
    refine ga_il zp196 rfl rfl rfl ?_
    refine ga_il zp196 rfl rfl rfl ?_
    refine ga_icmp zp196 rfl rfl zc5 (fun c2 => ?_) (fun c2 => ?_)
    · replace h := h.1 c2
      refine ga_ic zp196 rfl rfl ?_
      refine ga_il zp196 rfl rfl rfl ?_
      refine ga_ar (r := w32 (10 * l2)) zp196 rfl rfl rfl ?_
      refine ga_is (ls' := [zI l0, zI l1, zI (w32 (10 * l2)), zI l3]) zp196 rfl rfl (Nat.le_of_ble_eq_true rfl) rfl ?_
      refine ga_inc (ls' := [zI l0, zI l1, zI (w32 (10 * l2)), zI (w32 (l3 + 1))]) zp196 rfl rfl rfl rfl ?_
      refine ga_goto zp196 rfl ?_
      exact ga_weak (ls' := [zI l0, zI l1, zI (w32 (10 * l2)), zI (w32 (l3 + 1))]) ⟨Or.inr rfl, Or.inr rfl, Or.inr rfl, Or.inr rfl, trivial⟩ h
    · replace h := h.2 c2
      refine ga_il zp196 rfl rfl rfl ?_
      refine ga_il zp196 rfl rfl rfl ?_
      refine ga_ar (r := w32 (l3 + l1)) zp196 rfl rfl rfl ?_
      exact ga_ret zp196 rfl rfl ⟨_, rfl, h⟩
theorem zp197 : zprog.getD 197 [] = zk197 := rfl
theorem xa197_0 {w : zWt} {d : Nat} {H : zHt} {K : Int → zWt → zHt → Prop} {l0 : Int} {l1 : Int} {l2 : Int}
    (h : (0 ≤ l0 → zga w d 197 22 [zI (w32 (-l0)), zJ, zR l2, zJ, zJ, zI l1, zI 0] [] H (zQaI K)) ∧ (l0 < 0 → zga w d 197 22 [zI l0, zJ, zR l2, zJ, zJ, zI l1, zI 1] [] H (zQaI K))) :
    zcaI w d 197 [zI l0, zI l1, zR l2] H K := by
  show zga w d 197 0 [zI l0, zI l1, zR l2, zJ, zJ, zJ, zJ] [] H (zQaI K)
  refine ga_il zp197 rfl rfl rfl ?_
  refine ga_is (ls' := [zI l0, zI l1, zR l2, zJ, zJ, zI l1, zJ]) zp197 rfl rfl (Nat.le_of_ble_eq_true rfl) rfl ?_
  refine ga_il zp197 rfl rfl rfl ?_
  refine ga_if zp197 rfl rfl zc3 (fun c1 => ?_) (fun c1 => ?_)
  · replace h := h.1 c1
    refine ga_ic zp197 rfl rfl ?_
    refine ga_is (ls' := [zI l0, zI l1, zR l2, zJ, zJ, zI l1, zI 0]) zp197 rfl rfl (Nat.le_of_ble_eq_true rfl) rfl ?_
    refine ga_il zp197 rfl rfl rfl ?_
    refine ga_if zp197 rfl rfl zc1 (fun c2 => ?_) (fun c2 => ?_)
    · exact absurd c2 (by decide)
    · refine ga_il zp197 rfl rfl rfl ?_
      refine ga_neg zp197 rfl rfl ?_
      refine ga_is (ls' := [zI (w32 (-l0)), zI l1, zR l2, zJ, zJ, zI l1, zI 0]) zp197 rfl rfl (Nat.le_of_ble_eq_true rfl) rfl ?_
      exact ga_weak (ls' := [zI (w32 (-l0)), zJ, zR l2, zJ, zJ, zI l1, zI 0]) ⟨Or.inr rfl, Or.inl rfl, Or.inr rfl, Or.inr rfl, Or.inr rfl, Or.inr rfl, Or.inr rfl, trivial⟩ h
  · replace h := h.2 c1
    refine ga_ic zp197 rfl rfl ?_
    refine ga_goto zp197 rfl ?_
    refine ga_is (ls' := [zI l0, zI l1, zR l2, zJ, zJ, zI l1, zI 1]) zp197 rfl rfl (Nat.le_of_ble_eq_true rfl) rfl ?_
    refine ga_il zp197 rfl rfl rfl ?_
    refine ga_if zp197 rfl rfl zc1 (fun c3 => ?_) (fun c3 => ?_)
    · exact ga_weak (ls' := [zI l0, zJ, zR l2, zJ, zJ, zI l1, zI 1]) ⟨Or.inr rfl, Or.inl rfl, Or.inr rfl, Or.inr rfl, Or.inr rfl, Or.inr rfl, Or.inr rfl, trivial⟩ h
    · exact absurd c3 (by decide)
theorem xa197_22 {w : zWt} {d : Nat} {H : zHt} {K : Int → zWt → zHt → Prop} {l0 : Int} {l2 : Int} {l5 : Int} {l6 : Int}
    (h : ((-100) < l0 → ((0 : Int) ≤ l2) ∧ ((0 : Int) ≤ (w32 (-l0)) ∧ (w32 (-l0)) < 100) ∧ (zSh w l2 102 (zsz w l2)) ∧ ((0 : Int) ≤ (w32 (l5 + (-1))) ∧ (w32 (l5 + (-1))) < (zsz w l2 : Int)) ∧ (∀ H6 : zHt, H6 = (zup H l2 (w32 (l5 + (-1))) (zi8 (48 + (w32 (-l0)) % 10))) → ((-9) ≤ l0 → (l6 = 0 → K (w32 (l5 + (-1))) w H6) ∧ (¬ l6 = 0 → ((0 : Int) ≤ (w32 ((w32 (l5 + (-1))) + (-1))) ∧ (w32 ((w32 (l5 + (-1))) + (-1))) < (zsz w l2 : Int)) ∧ (∀ H11 : zHt, H11 = (zup H6 l2 (w32 ((w32 (l5 + (-1))) + (-1))) (zi8 45)) → K (w32 ((w32 (l5 + (-1))) + (-1))) w H11))) ∧ (l0 < (-9) → ((0 : Int) ≤ (w32 ((w32 (l5 + (-1))) + (-1))) ∧ (w32 ((w32 (l5 + (-1))) + (-1))) < (zsz w l2 : Int)) ∧ (∀ H14 : zHt, H14 = (zup H6 l2 (w32 ((w32 (l5 + (-1))) + (-1))) (zi8 (48 + (w32 (-l0)) / 10))) → (l6 = 0 → K (w32 ((w32 (l5 + (-1))) + (-1))) w H14) ∧ (¬ l6 = 0 → ((0 : Int) ≤ (w32 ((w32 ((w32 (l5 + (-1))) + (-1))) + (-1))) ∧ (w32 ((w32 ((w32 (l5 + (-1))) + (-1))) + (-1))) < (zsz w l2 : Int)) ∧ (∀ H18 : zHt, H18 = (zup H14 l2 (w32 ((w32 ((w32 (l5 + (-1))) + (-1))) + (-1))) (zi8 45)) → K (w32 ((w32 ((w32 (l5 + (-1))) + (-1))) + (-1))) w H18)))))) ∧ (l0 ≤ (-100) → ((0 : Int) ≤ l2) ∧ ((0 : Int) ≤ (w32 ((w32 ((w32 (Int.tdiv l0 100)) * 100)) - l0)) ∧ (w32 ((w32 ((w32 (Int.tdiv l0 100)) * 100)) - l0)) < 100) ∧ (zSh w l2 102 (zsz w l2)) ∧ ((0 : Int) ≤ (w32 (l5 + (-1))) ∧ (w32 (l5 + (-1))) < (zsz w l2 : Int)) ∧ (∀ H24 : zHt, H24 = (zup H l2 (w32 (l5 + (-1))) (zi8 (48 + (w32 ((w32 ((w32 (Int.tdiv l0 100)) * 100)) - l0)) % 10))) → ((0 : Int) ≤ (w32 ((w32 (l5 + (-1))) + (-1))) ∧ (w32 ((w32 (l5 + (-1))) + (-1))) < (zsz w l2 : Int)) ∧ (∀ H27 : zHt, H27 = (zup H24 l2 (w32 ((w32 (l5 + (-1))) + (-1))) (zi8 (48 + (w32 ((w32 ((w32 (Int.tdiv l0 100)) * 100)) - l0)) / 10))) → zga w d 197 22 [zI (w32 (Int.tdiv l0 100)), zJ, zR l2, zJ, zJ, zI (w32 ((w32 (l5 + (-1))) + (-1))), zI l6] [] H27 (zQaI K))))) :
    zga w d 197 22 [zI l0, zJ, zR l2, zJ, zJ, zI l5, zI l6] [] H (zQaI K) := by
  refine ga_il zp197 rfl rfl rfl ?_
  refine ga_ic zp197 rfl rfl ?_
  refine ga_icmp zp197 rfl rfl zc4 (fun c1 => ?_) (fun c1 => ?_)
  · replace h := h.1 c1
    obtain ⟨c2, h⟩ := h
    refine ga_al zp197 rfl rfl rfl c2 ?_
    refine ga_inc (ls' := [zI l0, zJ, zR l2, zJ, zJ, zI (w32 (l5 + (-1))), zI l6]) zp197 rfl rfl rfl rfl ?_
    refine ga_il zp197 rfl rfl rfl ?_
    refine ga_stat (v := zR 27) zp197 rfl rfl rfl ?_
    refine ga_il zp197 rfl rfl rfl ?_
    refine ga_neg zp197 rfl rfl ?_
    obtain ⟨c3, h⟩ := h
    refine ga_ald (v := zI (48 + (w32 (-l0)) % 10)) (c := 93) (N := 100) zp197 rfl rfl rfl rfl c3 rfl ?_
    obtain ⟨c4, h⟩ := h
    obtain ⟨c5, h⟩ := h
    refine ga_bastS zp197 rfl rfl c4 c5 ?_
    let H6 : zHt := zup H l2 (w32 (l5 + (-1))) (zi8 (48 + (w32 (-l0)) % 10))
    replace h := h H6 rfl
    refine ga_il zp197 rfl rfl rfl ?_
    refine ga_ic zp197 rfl rfl ?_
    refine ga_icmp zp197 rfl rfl zc3 (fun c8 => ?_) (fun c8 => ?_)
    · replace h := h.1 c8
      refine ga_il zp197 rfl rfl rfl ?_
      refine ga_if zp197 rfl rfl zc0 (fun c9 => ?_) (fun c9 => ?_)
      · replace h := h.1 c9
        refine ga_il zp197 rfl rfl rfl ?_
        exact ga_ret zp197 rfl rfl ⟨_, rfl, h⟩
      · replace h := h.2 c9
        refine ga_al zp197 rfl rfl rfl c2 ?_
        refine ga_inc (ls' := [zI l0, zJ, zR l2, zJ, zJ, zI (w32 ((w32 (l5 + (-1))) + (-1))), zI l6]) zp197 rfl rfl rfl rfl ?_
        refine ga_il zp197 rfl rfl rfl ?_
        refine ga_ic zp197 rfl rfl ?_
        obtain ⟨c10, h⟩ := h
        refine ga_bastS zp197 rfl rfl c4 c10 ?_
        let H11 : zHt := zup H6 l2 (w32 ((w32 (l5 + (-1))) + (-1))) (zi8 45)
        replace h := h H11 rfl
        refine ga_il zp197 rfl rfl rfl ?_
        exact ga_ret zp197 rfl rfl ⟨_, rfl, h⟩
    · replace h := h.2 c8
      refine ga_al zp197 rfl rfl rfl c2 ?_
      refine ga_inc (ls' := [zI l0, zJ, zR l2, zJ, zJ, zI (w32 ((w32 (l5 + (-1))) + (-1))), zI l6]) zp197 rfl rfl rfl rfl ?_
      refine ga_il zp197 rfl rfl rfl ?_
      refine ga_stat (v := zR 28) zp197 rfl rfl rfl ?_
      refine ga_il zp197 rfl rfl rfl ?_
      refine ga_neg zp197 rfl rfl ?_
      refine ga_ald (v := zI (48 + (w32 (-l0)) / 10)) (c := 93) (N := 100) zp197 rfl rfl rfl rfl c3 rfl ?_
      obtain ⟨c13, h⟩ := h
      refine ga_bastS zp197 rfl rfl c4 c13 ?_
      let H14 : zHt := zup H6 l2 (w32 ((w32 (l5 + (-1))) + (-1))) (zi8 (48 + (w32 (-l0)) / 10))
      replace h := h H14 rfl
      refine ga_il zp197 rfl rfl rfl ?_
      refine ga_if zp197 rfl rfl zc0 (fun c16 => ?_) (fun c16 => ?_)
      · replace h := h.1 c16
        refine ga_il zp197 rfl rfl rfl ?_
        exact ga_ret zp197 rfl rfl ⟨_, rfl, h⟩
      · replace h := h.2 c16
        refine ga_al zp197 rfl rfl rfl c2 ?_
        refine ga_inc (ls' := [zI l0, zJ, zR l2, zJ, zJ, zI (w32 ((w32 ((w32 (l5 + (-1))) + (-1))) + (-1))), zI l6]) zp197 rfl rfl rfl rfl ?_
        refine ga_il zp197 rfl rfl rfl ?_
        refine ga_ic zp197 rfl rfl ?_
        obtain ⟨c17, h⟩ := h
        refine ga_bastS zp197 rfl rfl c4 c17 ?_
        let H18 : zHt := zup H14 l2 (w32 ((w32 ((w32 (l5 + (-1))) + (-1))) + (-1))) (zi8 45)
        replace h := h H18 rfl
        refine ga_il zp197 rfl rfl rfl ?_
        exact ga_ret zp197 rfl rfl ⟨_, rfl, h⟩
  · replace h := h.2 c1
    refine ga_il zp197 rfl rfl rfl ?_
    refine ga_ic zp197 rfl rfl ?_
    refine ga_ar (r := w32 (Int.tdiv l0 100)) zp197 rfl rfl (zr_div (by decide)) ?_
    refine ga_is (ls' := [zI l0, zJ, zR l2, zI (w32 (Int.tdiv l0 100)), zJ, zI l5, zI l6]) zp197 rfl rfl (Nat.le_of_ble_eq_true rfl) rfl ?_
    refine ga_il zp197 rfl rfl rfl ?_
    refine ga_ic zp197 rfl rfl ?_
    refine ga_ar (r := w32 ((w32 (Int.tdiv l0 100)) * 100)) zp197 rfl rfl rfl ?_
    refine ga_il zp197 rfl rfl rfl ?_
    refine ga_ar (r := w32 ((w32 ((w32 (Int.tdiv l0 100)) * 100)) - l0)) zp197 rfl rfl rfl ?_
    refine ga_is (ls' := [zI l0, zJ, zR l2, zI (w32 (Int.tdiv l0 100)), zI (w32 ((w32 ((w32 (Int.tdiv l0 100)) * 100)) - l0)), zI l5, zI l6]) zp197 rfl rfl (Nat.le_of_ble_eq_true rfl) rfl ?_
    refine ga_il zp197 rfl rfl rfl ?_
    refine ga_is (ls' := [zI (w32 (Int.tdiv l0 100)), zJ, zR l2, zI (w32 (Int.tdiv l0 100)), zI (w32 ((w32 ((w32 (Int.tdiv l0 100)) * 100)) - l0)), zI l5, zI l6]) zp197 rfl rfl (Nat.le_of_ble_eq_true rfl) rfl ?_
    obtain ⟨c20, h⟩ := h
    refine ga_al zp197 rfl rfl rfl c20 ?_
    refine ga_inc (ls' := [zI (w32 (Int.tdiv l0 100)), zJ, zR l2, zI (w32 (Int.tdiv l0 100)), zI (w32 ((w32 ((w32 (Int.tdiv l0 100)) * 100)) - l0)), zI (w32 (l5 + (-1))), zI l6]) zp197 rfl rfl rfl rfl ?_
    refine ga_il zp197 rfl rfl rfl ?_
    refine ga_stat (v := zR 27) zp197 rfl rfl rfl ?_
    refine ga_il zp197 rfl rfl rfl ?_
    obtain ⟨c21, h⟩ := h
    refine ga_ald (v := zI (48 + (w32 ((w32 ((w32 (Int.tdiv l0 100)) * 100)) - l0)) % 10)) (c := 93) (N := 100) zp197 rfl rfl rfl rfl c21 rfl ?_
    obtain ⟨c22, h⟩ := h
    obtain ⟨c23, h⟩ := h
    refine ga_bastS zp197 rfl rfl c22 c23 ?_
    let H24 : zHt := zup H l2 (w32 (l5 + (-1))) (zi8 (48 + (w32 ((w32 ((w32 (Int.tdiv l0 100)) * 100)) - l0)) % 10))
    replace h := h H24 rfl
    refine ga_al zp197 rfl rfl rfl c20 ?_
    refine ga_inc (ls' := [zI (w32 (Int.tdiv l0 100)), zJ, zR l2, zI (w32 (Int.tdiv l0 100)), zI (w32 ((w32 ((w32 (Int.tdiv l0 100)) * 100)) - l0)), zI (w32 ((w32 (l5 + (-1))) + (-1))), zI l6]) zp197 rfl rfl rfl rfl ?_
    refine ga_il zp197 rfl rfl rfl ?_
    refine ga_stat (v := zR 28) zp197 rfl rfl rfl ?_
    refine ga_il zp197 rfl rfl rfl ?_
    refine ga_ald (v := zI (48 + (w32 ((w32 ((w32 (Int.tdiv l0 100)) * 100)) - l0)) / 10)) (c := 93) (N := 100) zp197 rfl rfl rfl rfl c21 rfl ?_
    obtain ⟨c26, h⟩ := h
    refine ga_bastS zp197 rfl rfl c22 c26 ?_
    let H27 : zHt := zup H24 l2 (w32 ((w32 (l5 + (-1))) + (-1))) (zi8 (48 + (w32 ((w32 ((w32 (Int.tdiv l0 100)) * 100)) - l0)) / 10))
    replace h := h H27 rfl
    refine ga_goto zp197 rfl ?_
    exact ga_weak (ls' := [zI (w32 (Int.tdiv l0 100)), zJ, zR l2, zJ, zJ, zI (w32 ((w32 (l5 + (-1))) + (-1))), zI l6]) ⟨Or.inr rfl, Or.inr rfl, Or.inr rfl, Or.inl rfl, Or.inl rfl, Or.inr rfl, Or.inr rfl, trivial⟩ h
theorem zp198 : zprog.getD 198 [] = zk198 := rfl
theorem xa198_0 {w : zWt} {d : Nat} {H : zHt} {K : Int → zWt → zHt → Prop} {l0 : Int} {l1 : Int}
    (h : ((0 : Int) ≤ l0) ∧ (zSh w l0 6 4) ∧ zcaR w d 199 [zR l0, zI l1] H (fun x4 w5 H3 => ((0 : Int) ≤ l0) ∧ K l0 w5 H3)) :
    zcaR w (d + 1) 198 [zR l0, zI l1] H K := by
  show zga w (d + 1) 198 0 [zR l0, zI l1] [] H (zQaR K)
  obtain ⟨c1, h⟩ := h
  refine ga_al zp198 rfl rfl rfl c1 ?_
  refine ga_il zp198 rfl rfl rfl ?_
  obtain ⟨c2, h⟩ := h
  refine ga_callR (as := [zR l0, zI l1]) (rest := []) zp198 rfl rfl (Nat.succ_pos _) rfl rfl (Nat.le_of_ble_eq_true rfl) (Nat.le_of_ble_eq_true rfl) (zrecv_of c2.2 rfl) rfl h (fun x4 w5 H3 h => ?_)
  refine ga_pop zp198 rfl rfl rfl ?_
  obtain ⟨c6, h⟩ := h
  refine ga_al zp198 rfl rfl rfl c6 ?_
  exact ga_ret zp198 rfl (zret_r c6) ⟨_, rfl, h⟩
theorem zp199 : zprog.getD 199 [] = zk199 := rfl
theorem xa199_0 {w : zWt} {d : Nat} {H : zHt} {K : Int → zWt → zHt → Prop} {l0 : Int} {l1 : Int}
    (h : ((0 : Int) ≤ l0) ∧ (zSh w l0 6 4) ∧ zcaV w d 186 [zR l0, zI (w32 ((H l0 3) + 1))] H (fun w5 H3 => ((0 : Int) ≤ l0) ∧ (zSh w5 l0 6 4) ∧ zcaI w5 d 190 [zR l0] H3 (fun x9 w10 H8 => (x9 = 0 → ((0 : Int) ≤ l0) ∧ (zSh w10 l0 6 4) ∧ zcaI w10 d 190 [zR l0] H8 (fun x15 w16 H14 => (x15 = 0 → ((0 : Int) ≤ l0) ∧ (zSh w16 l0 6 4) ∧ (∀ H20 : zHt, H20 = (zup H14 l0 3 (w32 ((H14 l0 3) + 1))) → False)) ∧ (¬ x15 = 0 → ((0 : Int) ≤ l0) ∧ False))) ∧ (¬ x9 = 0 → zcaI w10 d 200 [zI l1] H8 (fun x24 w25 H23 => (x24 = 0 → ((0 : Int) ≤ l0) ∧ (zSh w25 l0 6 4) ∧ zcaI w25 d 190 [zR l0] H23 (fun x30 w31 H29 => (x30 = 0 → ((0 : Int) ≤ l0) ∧ (zSh w31 l0 6 4) ∧ (∀ H35 : zHt, H35 = (zup H29 l0 3 (w32 ((H29 l0 3) + 1))) → False)) ∧ (¬ x30 = 0 → ((0 : Int) ≤ l0) ∧ False))) ∧ (¬ x24 = 0 → ((0 : Int) ≤ l0) ∧ (zSh w25 l0 6 4) ∧ (∀ H40 : zHt, H40 = (zup H23 l0 3 (w32 ((H23 l0 3) + 1))) → (zSh w25 (H23 l0 0) 102 (zsz w25 (H23 l0 0))) ∧ ((0 : Int) ≤ (H23 l0 3) ∧ (H23 l0 3) < (zsz w25 (H23 l0 0) : Int)) ∧ (∀ H44 : zHt, H44 = (zup H40 (H23 l0 0) (H23 l0 3) (zi8 (zi8 l1))) → K l0 w25 H44)))))))) :
    zcaR w (d + 1) 199 [zR l0, zI l1] H K := by
  show zga w (d + 1) 199 0 [zR l0, zI l1] [] H (zQaR K)
  obtain ⟨c1, h⟩ := h
  refine ga_al zp199 rfl rfl rfl c1 ?_
  refine ga_al zp199 rfl rfl rfl c1 ?_
  obtain ⟨c2, h⟩ := h
  refine ga_getS (v := zI (H l0 3)) zp199 rfl rfl c2 ⟨rfl, by decide⟩ rfl ?_
  refine ga_ic zp199 rfl rfl ?_
  refine ga_ar (r := w32 ((H l0 3) + 1)) zp199 rfl rfl rfl ?_
  refine ga_callV (as := [zR l0, zI (w32 ((H l0 3) + 1))]) (rest := []) zp199 rfl rfl (Nat.succ_pos _) rfl rfl (Nat.le_of_ble_eq_true rfl) (Nat.le_of_ble_eq_true rfl) (zrecv_of c2.2 rfl) rfl h (fun w5 H3 h => ?_)
  obtain ⟨c6, h⟩ := h
  refine ga_al zp199 rfl rfl rfl c6 ?_
  obtain ⟨c7, h⟩ := h
  refine ga_callI (as := [zR l0]) (rest := []) zp199 rfl rfl (Nat.succ_pos _) rfl rfl (Nat.le_of_ble_eq_true rfl) (Nat.le_of_ble_eq_true rfl) (zrecv_of c7.2 rfl) rfl h (fun x9 w10 H8 h => ?_)
  refine ga_if zp199 rfl rfl zc0 (fun c11 => ?_) (fun c11 => ?_)
  · replace h := h.1 c11
    obtain ⟨c12, h⟩ := h
    refine ga_al zp199 rfl rfl rfl c12 ?_
    obtain ⟨c13, h⟩ := h
    refine ga_callI (as := [zR l0]) (rest := []) zp199 rfl rfl (Nat.succ_pos _) rfl rfl (Nat.le_of_ble_eq_true rfl) (Nat.le_of_ble_eq_true rfl) (zrecv_of c13.2 rfl) rfl h (fun x15 w16 H14 h => ?_)
    refine ga_if zp199 rfl rfl zc0 (fun c17 => ?_) (fun c17 => ?_)
    · replace h := h.1 c17
      obtain ⟨c18, h⟩ := h
      refine ga_al zp199 rfl rfl rfl c18 ?_
      obtain ⟨c19, h⟩ := h
      refine ga_getS (v := zR (H14 l0 0)) zp199 rfl rfl c19 ⟨rfl, by decide⟩ rfl ?_
      refine ga_al zp199 rfl rfl rfl c18 ?_
      refine ga_dup zp199 rfl rfl rfl ?_
      refine ga_getS (v := zI (H14 l0 3)) zp199 rfl rfl c19 ⟨rfl, by decide⟩ rfl ?_
      refine ga_dupx zp199 rfl rfl ⟨rfl, rfl⟩ ?_
      refine ga_ic zp199 rfl rfl ?_
      refine ga_ar (r := w32 ((H14 l0 3) + 1)) zp199 rfl rfl rfl ?_
      refine ga_putS zp199 rfl rfl c19 ⟨rfl, by decide⟩ rfl ?_
      let H20 : zHt := zup H14 l0 3 (w32 ((H14 l0 3) + 1))
      replace h := h H20 rfl
      refine ga_il zp199 rfl rfl rfl ?_
      exact h.elim
    · replace h := h.2 c17
      obtain ⟨c22, h⟩ := h
      refine ga_al zp199 rfl rfl rfl c22 ?_
      exact h.elim
  · replace h := h.2 c11
    refine ga_il zp199 rfl rfl rfl ?_
    refine ga_callI (as := [zI l1]) (rest := []) zp199 rfl rfl (Nat.succ_pos _) rfl rfl (Nat.le_of_ble_eq_true rfl) (Nat.le_of_ble_eq_true rfl) rfl rfl h (fun x24 w25 H23 h => ?_)
    refine ga_if zp199 rfl rfl zc0 (fun c26 => ?_) (fun c26 => ?_)
    · replace h := h.1 c26
      obtain ⟨c27, h⟩ := h
      refine ga_al zp199 rfl rfl rfl c27 ?_
      obtain ⟨c28, h⟩ := h
      refine ga_callI (as := [zR l0]) (rest := []) zp199 rfl rfl (Nat.succ_pos _) rfl rfl (Nat.le_of_ble_eq_true rfl) (Nat.le_of_ble_eq_true rfl) (zrecv_of c28.2 rfl) rfl h (fun x30 w31 H29 h => ?_)
      refine ga_if zp199 rfl rfl zc0 (fun c32 => ?_) (fun c32 => ?_)
      · replace h := h.1 c32
        obtain ⟨c33, h⟩ := h
        refine ga_al zp199 rfl rfl rfl c33 ?_
        obtain ⟨c34, h⟩ := h
        refine ga_getS (v := zR (H29 l0 0)) zp199 rfl rfl c34 ⟨rfl, by decide⟩ rfl ?_
        refine ga_al zp199 rfl rfl rfl c33 ?_
        refine ga_dup zp199 rfl rfl rfl ?_
        refine ga_getS (v := zI (H29 l0 3)) zp199 rfl rfl c34 ⟨rfl, by decide⟩ rfl ?_
        refine ga_dupx zp199 rfl rfl ⟨rfl, rfl⟩ ?_
        refine ga_ic zp199 rfl rfl ?_
        refine ga_ar (r := w32 ((H29 l0 3) + 1)) zp199 rfl rfl rfl ?_
        refine ga_putS zp199 rfl rfl c34 ⟨rfl, by decide⟩ rfl ?_
        let H35 : zHt := zup H29 l0 3 (w32 ((H29 l0 3) + 1))
        replace h := h H35 rfl
        refine ga_il zp199 rfl rfl rfl ?_
        exact h.elim
      · replace h := h.2 c32
        obtain ⟨c37, h⟩ := h
        refine ga_al zp199 rfl rfl rfl c37 ?_
        exact h.elim
    · replace h := h.2 c26
      obtain ⟨c38, h⟩ := h
      refine ga_al zp199 rfl rfl rfl c38 ?_
      obtain ⟨c39, h⟩ := h
      refine ga_getS (v := zR (H23 l0 0)) zp199 rfl rfl c39 ⟨rfl, by decide⟩ rfl ?_
      refine ga_al zp199 rfl rfl rfl c38 ?_
      refine ga_dup zp199 rfl rfl rfl ?_
      refine ga_getS (v := zI (H23 l0 3)) zp199 rfl rfl c39 ⟨rfl, by decide⟩ rfl ?_
      refine ga_dupx zp199 rfl rfl ⟨rfl, rfl⟩ ?_
      refine ga_ic zp199 rfl rfl ?_
      refine ga_ar (r := w32 ((H23 l0 3) + 1)) zp199 rfl rfl rfl ?_
      refine ga_putS zp199 rfl rfl c39 ⟨rfl, by decide⟩ rfl ?_
      let H40 : zHt := zup H23 l0 3 (w32 ((H23 l0 3) + 1))
      replace h := h H40 rfl
      refine ga_il zp199 rfl rfl rfl ?_
      refine ga_i2b zp199 rfl rfl ?_
      obtain ⟨c42, h⟩ := h
      obtain ⟨c43, h⟩ := h
      refine ga_bastS zp199 rfl rfl c42 c43 ?_
      let H44 : zHt := zup H40 (H23 l0 0) (H23 l0 3) (zi8 (zi8 l1))
      replace h := h H44 rfl
      refine ga_goto zp199 rfl ?_
      refine ga_al zp199 rfl rfl rfl c38 ?_
      exact ga_ret zp199 rfl (zret_r c38) ⟨_, rfl, h⟩
theorem zp200 : zprog.getD 200 [] = zk200 := rfl
theorem xa200_0 {w : zWt} {d : Nat} {H : zHt} {K : Int → zWt → zHt → Prop} {l0 : Int}
    (h : (255 < l0 → K 0 w H) ∧ (l0 ≤ 255 → K 1 w H)) :
    zcaI w d 200 [zI l0] H K := by
  show zga w d 200 0 [zI l0] [] H (zQaI K)
  refine ga_il zp200 rfl rfl rfl ?_
  refine ga_ic zp200 rfl rfl ?_
  refine ga_icmp zp200 rfl rfl zc4 (fun c1 => ?_) (fun c1 => ?_)
  · replace h := h.1 c1
    refine ga_ic zp200 rfl rfl ?_
    exact ga_ret zp200 rfl (zret_b (by decide)) ⟨_, rfl, h⟩
  · replace h := h.2 c1
    refine ga_ic zp200 rfl rfl ?_
    refine ga_goto zp200 rfl ?_
    exact ga_ret zp200 rfl (zret_b (by decide)) ⟨_, rfl, h⟩
theorem zp201 : zprog.getD 201 [] = zk201 := rfl
theorem xa201_0 {w : zWt} {d : Nat} {H : zHt} {K : Int → zWt → zHt → Prop} {l0 : Int}
    (h : ∀ o1 : Int, o1 = (zNc w) → ∀ w3 : zWt, w3 = (zwp w 7 (znf.getD 7 0)) → ∀ H5 : zHt, H5 = (znew H (zNc w) (fun j => if zft 7 j.toNat = 2 then -1 else 0)) → ((0 : Int) ≤ l0) ∧ (zSh w3 o1 7 4) ∧ zcaV w3 d 202 [zR o1, zR l0] H5 (fun w11 H9 => ((0 : Int) ≤ o1) ∧ K o1 w11 H9)) :
    zcaR w (d + 1) 201 [zR l0] H K := by
  show zga w (d + 1) 201 0 [zR l0] [] H (zQaR K)
  refine ga_new zp201 rfl rfl (by decide) ?_
  let o1 : Int := zNc w
  replace h := h o1 rfl
  let w3 : zWt := zwp w 7 (znf.getD 7 0)
  replace h := h w3 rfl
  let H5 : zHt := znew H (zNc w) (fun j => if zft 7 j.toNat = 2 then -1 else 0)
  replace h := h H5 rfl
  refine ga_dup zp201 rfl rfl rfl ?_
  obtain ⟨c7, h⟩ := h
  refine ga_al zp201 rfl rfl rfl c7 ?_
  obtain ⟨c8, h⟩ := h
  refine ga_callV (as := [zR o1, zR l0]) (rest := [zR o1]) zp201 rfl rfl (Nat.succ_pos _) rfl rfl (Nat.le_of_ble_eq_true rfl) (Nat.le_of_ble_eq_true rfl) (zrecv_sp c8) rfl h (fun w11 H9 h => ?_)
  obtain ⟨c12, h⟩ := h
  exact ga_ret zp201 rfl (zret_r c12) ⟨_, rfl, h⟩
theorem zp202 : zprog.getD 202 [] = zk202 := rfl
theorem xa202_0 {w : zWt} {d : Nat} {H : zHt} {K : zWt → zHt → Prop} {l0 : Int} {l1 : Int}
    (h : ((0 : Int) ≤ l0) ∧ ((0 : Int) ≤ l1) ∧ (zSh w l0 7 4) ∧ zcaV w d 203 [zR l0, zR l1, zR (-1)] H (fun w6 H4 => K w6 H4)) :
    zcaV w (d + 1) 202 [zR l0, zR l1] H K := by
  show zga w (d + 1) 202 0 [zR l0, zR l1] [] H (zQaV K)
  obtain ⟨c1, h⟩ := h
  refine ga_al zp202 rfl rfl rfl c1 ?_
  obtain ⟨c2, h⟩ := h
  refine ga_al zp202 rfl rfl rfl c2 ?_
  refine ga_null zp202 rfl rfl ?_
  obtain ⟨c3, h⟩ := h
  refine ga_callV (as := [zR l0, zR l1, zR (-1)]) (rest := []) zp202 rfl rfl (Nat.succ_pos _) rfl rfl (Nat.le_of_ble_eq_true rfl) (Nat.le_of_ble_eq_true rfl) (zrecv_sp c3) rfl h (fun w6 H4 h => ?_)
  exact ga_ret zp202 rfl rfl ⟨rfl, h⟩
theorem zp203 : zprog.getD 203 [] = zk203 := rfl
theorem xa203_0 {w : zWt} {d : Nat} {H : zHt} {K : zWt → zHt → Prop} {l0 : Int} {l1 : Int} {l2 : Int}
    (h : ((0 : Int) ≤ l0) ∧ ((0 : Int) ≤ l1) ∧ (zSh w l1 6 4) ∧ zcaR w d 204 [zR l1] H (fun x5 w6 H4 => ((0 : Int) ≤ x5) ∧ ((0 : Int) ≤ l1) ∧ (zSh w6 l1 6 4) ∧ zcaI w6 d 205 [zR l1] H4 (fun x11 w12 H10 => ((0 : Int) ≤ l1) ∧ (zSh w12 l1 6 4) ∧ zcaI w12 d 190 [zR l1] H10 (fun x16 w17 H15 => (x16 = 0 → ((0 : Int) ≤ l1) ∧ (zSh w17 l1 6 4) ∧ ((H15 l1 2) = 0 → ((0 : Int) ≤ l0) ∧ (zSh w17 l0 7 4) ∧ (∀ H25 : zHt, H25 = (zup H15 l0 1 1) → ((0 : Int) ≤ x5) ∧ zcaR w17 d 207 [zR x5, zI 0, zI (zshl x11 1)] H25 (fun x29 w30 H28 => (zSh w30 l0 7 4) ∧ (∀ H32 : zHt, H32 = (zup H28 l0 0 x29) → K w30 H32)))) ∧ (¬ (H15 l1 2) = 0 → ((0 : Int) ≤ l0) ∧ ((0 : Int) ≤ x5) ∧ False)) ∧ (¬ x16 = 0 → ((0 : Int) ≤ l0) ∧ (zSh w17 l0 7 4) ∧ (∀ H38 : zHt, H38 = (zup H15 l0 1 0) → ((0 : Int) ≤ x5) ∧ zcaR w17 d 207 [zR x5, zI 0, zI x11] H38 (fun x42 w43 H41 => (zSh w43 l0 7 4) ∧ (∀ H45 : zHt, H45 = (zup H41 l0 0 x42) → K w43 H45)))))))) :
    zcaV w (d + 1) 203 [zR l0, zR l1, zR l2] H K := by
  show zga w (d + 1) 203 0 [zR l0, zR l1, zR l2, zJ, zJ] [] H (zQaV K)
  obtain ⟨c1, h⟩ := h
  refine ga_al zp203 rfl rfl rfl c1 ?_
  refine ga_obj zp203 rfl rfl c1 (Nat.le_of_ble_eq_true rfl) ?_
  obtain ⟨c2, h⟩ := h
  refine ga_al zp203 rfl rfl rfl c2 ?_
  obtain ⟨c3, h⟩ := h
  refine ga_callR (as := [zR l1]) (rest := []) zp203 rfl rfl (Nat.succ_pos _) rfl rfl (Nat.le_of_ble_eq_true rfl) (Nat.le_of_ble_eq_true rfl) (zrecv_of c3.2 rfl) rfl h (fun x5 w6 H4 h => ?_)
  obtain ⟨c7, h⟩ := h
  refine ga_as (ls' := [zR l0, zR l1, zR l2, zR x5, zJ]) zp203 rfl rfl (Nat.le_of_ble_eq_true rfl) c7 rfl ?_
  obtain ⟨c8, h⟩ := h
  refine ga_al zp203 rfl rfl rfl c8 ?_
  obtain ⟨c9, h⟩ := h
  refine ga_callI (as := [zR l1]) (rest := []) zp203 rfl rfl (Nat.succ_pos _) rfl rfl (Nat.le_of_ble_eq_true rfl) (Nat.le_of_ble_eq_true rfl) (zrecv_of c9.2 rfl) rfl h (fun x11 w12 H10 h => ?_)
  refine ga_is (ls' := [zR l0, zR l1, zR l2, zR x5, zI x11]) zp203 rfl rfl (Nat.le_of_ble_eq_true rfl) rfl ?_
  obtain ⟨c13, h⟩ := h
  refine ga_al zp203 rfl rfl rfl c13 ?_
  obtain ⟨c14, h⟩ := h
  refine ga_callI (as := [zR l1]) (rest := []) zp203 rfl rfl (Nat.succ_pos _) rfl rfl (Nat.le_of_ble_eq_true rfl) (Nat.le_of_ble_eq_true rfl) (zrecv_of c14.2 rfl) rfl h (fun x16 w17 H15 h => ?_)
  refine ga_if zp203 rfl rfl zc0 (fun c18 => ?_) (fun c18 => ?_)
  · replace h := h.1 c18
    refine ga_stat (v := zI 1) zp203 rfl rfl rfl ?_
    refine ga_if zp203 rfl rfl zc0 (fun c19 => ?_) (fun c19 => ?_)
    · exact absurd c19 (by decide)
    · obtain ⟨c20, h⟩ := h
      refine ga_al zp203 rfl rfl rfl c20 ?_
      obtain ⟨c21, h⟩ := h
      refine ga_getS (v := zI (H15 l1 2)) zp203 rfl rfl c21 ⟨rfl, by decide⟩ rfl ?_
      refine ga_if zp203 rfl rfl zc0 (fun c22 => ?_) (fun c22 => ?_)
      · replace h := h.1 c22
        obtain ⟨c23, h⟩ := h
        refine ga_al zp203 rfl rfl rfl c23 ?_
        refine ga_ic zp203 rfl rfl ?_
        obtain ⟨c24, h⟩ := h
        refine ga_putS zp203 rfl rfl c24 ⟨rfl, by decide⟩ (by decide) ?_
        let H25 : zHt := zup H15 l0 1 1
        replace h := h H25 rfl
        refine ga_al zp203 rfl rfl rfl c23 ?_
        obtain ⟨c27, h⟩ := h
        refine ga_al zp203 rfl rfl rfl c27 ?_
        refine ga_ic zp203 rfl rfl ?_
        refine ga_il zp203 rfl rfl rfl ?_
        refine ga_ic zp203 rfl rfl ?_
        refine ga_ar (r := zshl x11 1) zp203 rfl rfl rfl ?_
        refine ga_callR (as := [zR x5, zI 0, zI (zshl x11 1)]) (rest := [zR l0]) zp203 rfl rfl (Nat.succ_pos _) rfl rfl (Nat.le_of_ble_eq_true rfl) (Nat.le_of_ble_eq_true rfl) rfl rfl h (fun x29 w30 H28 h => ?_)
        obtain ⟨c31, h⟩ := h
        refine ga_putS zp203 rfl rfl c31 ⟨rfl, by decide⟩ rfl ?_
        let H32 : zHt := zup H28 l0 0 x29
        replace h := h H32 rfl
        exact ga_ret zp203 rfl rfl ⟨rfl, h⟩
      · replace h := h.2 c22
        obtain ⟨c34, h⟩ := h
        refine ga_al zp203 rfl rfl rfl c34 ?_
        obtain ⟨c35, h⟩ := h
        refine ga_al zp203 rfl rfl rfl c35 ?_
        refine ga_ic zp203 rfl rfl ?_
        refine ga_il zp203 rfl rfl rfl ?_
        exact h.elim
  · replace h := h.2 c18
    obtain ⟨c36, h⟩ := h
    refine ga_al zp203 rfl rfl rfl c36 ?_
    refine ga_ic zp203 rfl rfl ?_
    obtain ⟨c37, h⟩ := h
    refine ga_putS zp203 rfl rfl c37 ⟨rfl, by decide⟩ (by decide) ?_
    let H38 : zHt := zup H15 l0 1 0
    replace h := h H38 rfl
    refine ga_al zp203 rfl rfl rfl c36 ?_
    obtain ⟨c40, h⟩ := h
    refine ga_al zp203 rfl rfl rfl c40 ?_
    refine ga_ic zp203 rfl rfl ?_
    refine ga_il zp203 rfl rfl rfl ?_
    refine ga_callR (as := [zR x5, zI 0, zI x11]) (rest := [zR l0]) zp203 rfl rfl (Nat.succ_pos _) rfl rfl (Nat.le_of_ble_eq_true rfl) (Nat.le_of_ble_eq_true rfl) rfl rfl h (fun x42 w43 H41 h => ?_)
    obtain ⟨c44, h⟩ := h
    refine ga_putS zp203 rfl rfl c44 ⟨rfl, by decide⟩ rfl ?_
    let H45 : zHt := zup H41 l0 0 x42
    replace h := h H45 rfl
    refine ga_goto zp203 rfl ?_
    exact ga_ret zp203 rfl rfl ⟨rfl, h⟩
theorem zp204 : zprog.getD 204 [] = zk204 := rfl
theorem xa204_0 {w : zWt} {d : Nat} {H : zHt} {K : Int → zWt → zHt → Prop} {l0 : Int}
    (h : ((0 : Int) ≤ l0) ∧ (zSh w l0 6 4) ∧ ((0 : Int) ≤ (H l0 0)) ∧ K (H l0 0) w H) :
    zcaR w d 204 [zR l0] H K := by
  show zga w d 204 0 [zR l0] [] H (zQaR K)
  obtain ⟨c1, h⟩ := h
  refine ga_al zp204 rfl rfl rfl c1 ?_
  obtain ⟨c2, h⟩ := h
  refine ga_getS (v := zR (H l0 0)) zp204 rfl rfl c2 ⟨rfl, by decide⟩ rfl ?_
  obtain ⟨c3, h⟩ := h
  exact ga_ret zp204 rfl (zret_r c3) ⟨_, rfl, h⟩
theorem zp205 : zprog.getD 205 [] = zk205 := rfl
theorem xa205_0 {w : zWt} {d : Nat} {H : zHt} {K : Int → zWt → zHt → Prop} {l0 : Int}
    (h : ((0 : Int) ≤ l0) ∧ (zSh w l0 6 4) ∧ zcaI w d 206 [zR l0] H (fun x4 w5 H3 => K x4 w5 H3)) :
    zcaI w (d + 1) 205 [zR l0] H K := by
  show zga w (d + 1) 205 0 [zR l0] [] H (zQaI K)
  obtain ⟨c1, h⟩ := h
  refine ga_al zp205 rfl rfl rfl c1 ?_
  obtain ⟨c2, h⟩ := h
  refine ga_callI (as := [zR l0]) (rest := []) zp205 rfl rfl (Nat.succ_pos _) rfl rfl (Nat.le_of_ble_eq_true rfl) (Nat.le_of_ble_eq_true rfl) (zrecv_of c2.2 rfl) rfl h (fun x4 w5 H3 h => ?_)
  exact ga_ret zp205 rfl rfl ⟨_, rfl, h⟩
theorem zp206 : zprog.getD 206 [] = zk206 := rfl
theorem xa206_0 {w : zWt} {d : Nat} {H : zHt} {K : Int → zWt → zHt → Prop} {l0 : Int}
    (h : ((0 : Int) ≤ l0) ∧ (zSh w l0 6 4) ∧ K (H l0 3) w H) :
    zcaI w d 206 [zR l0] H K := by
  show zga w d 206 0 [zR l0] [] H (zQaI K)
  obtain ⟨c1, h⟩ := h
  refine ga_al zp206 rfl rfl rfl c1 ?_
  obtain ⟨c2, h⟩ := h
  refine ga_getS (v := zI (H l0 3)) zp206 rfl rfl c2 ⟨rfl, by decide⟩ rfl ?_
  exact ga_ret zp206 rfl rfl ⟨_, rfl, h⟩
theorem zp207 : zprog.getD 207 [] = zk207 := rfl
theorem xa207_0 {w : zWt} {d : Nat} {H : zHt} {K : Int → zWt → zHt → Prop} {l0 : Int} {l1 : Int} {l2 : Int}
    (h : (¬ l1 = 0 → ((0 : Int) ≤ l0) ∧ zcaR w d 208 [zR l0, zI l1, zI l2] H (fun x4 w5 H3 => ((0 : Int) ≤ x4) ∧ K x4 w5 H3)) ∧ (l1 = 0 → ((0 : Int) ≤ l0) ∧ (zSh w l0 102 (zsz w l0)) ∧ (l2 = (zsz w l0 : Int) → (∀ j : Nat, j < zsz w l0 → zb8 (H l0 j) = true) ∧ (∀ o11 : Int, o11 = (zNc w) → ∀ w13 : zWt, w13 = (zwp w 102 (zsz w l0)) → ∀ H15 : zHt, H15 = (znew H (zNc w) (H l0)) → (zSh w13 o11 102 (zsz w13 o11)) ∧ ((0 : Int) ≤ o11) ∧ K o11 w13 H15)) ∧ (¬ l2 = (zsz w l0 : Int) → zcaR w d 208 [zR l0, zI l1, zI l2] H (fun x20 w21 H19 => ((0 : Int) ≤ x20) ∧ K x20 w21 H19)))) :
    zcaR w (d + 1) 207 [zR l0, zI l1, zI l2] H K := by
  show zga w (d + 1) 207 0 [zR l0, zI l1, zI l2] [] H (zQaR K)
  refine ga_il zp207 rfl rfl rfl ?_
  refine ga_if zp207 rfl rfl zc1 (fun c1 => ?_) (fun c1 => ?_)
  · replace h := h.1 c1
    obtain ⟨c2, h⟩ := h
    refine ga_al zp207 rfl rfl rfl c2 ?_
    refine ga_il zp207 rfl rfl rfl ?_
    refine ga_il zp207 rfl rfl rfl ?_
    refine ga_callR (as := [zR l0, zI l1, zI l2]) (rest := []) zp207 rfl rfl (Nat.succ_pos _) rfl rfl (Nat.le_of_ble_eq_true rfl) (Nat.le_of_ble_eq_true rfl) rfl rfl h (fun x4 w5 H3 h => ?_)
    obtain ⟨c6, h⟩ := h
    exact ga_ret zp207 rfl (zret_r c6) ⟨_, rfl, h⟩
  · replace h := h.2 c1
    refine ga_il zp207 rfl rfl rfl ?_
    obtain ⟨c7, h⟩ := h
    refine ga_al zp207 rfl rfl rfl c7 ?_
    obtain ⟨c8, h⟩ := h
    refine ga_lenS zp207 rfl rfl c8 (by decide) ?_
    refine ga_icmp zp207 rfl rfl zc0 (fun c9 => ?_) (fun c9 => ?_)
    · replace h := h.1 c9
      refine ga_al zp207 rfl rfl rfl c7 ?_
      obtain ⟨c10, h⟩ := h
      refine ga_clone zp207 rfl rfl c8 (Nat.le_of_ble_eq_true rfl) c10 ?_
      let o11 : Int := zNc w
      replace h := h o11 rfl
      let w13 : zWt := zwp w 102 (zsz w l0)
      replace h := h w13 rfl
      let H15 : zHt := znew H (zNc w) (H l0)
      replace h := h H15 rfl
      obtain ⟨c17, h⟩ := h
      refine ga_cast zp207 rfl rfl c17 ?_
      obtain ⟨c18, h⟩ := h
      exact ga_ret zp207 rfl (zret_r c18) ⟨_, rfl, h⟩
    · replace h := h.2 c9
      refine ga_al zp207 rfl rfl rfl c7 ?_
      refine ga_il zp207 rfl rfl rfl ?_
      refine ga_il zp207 rfl rfl rfl ?_
      refine ga_callR (as := [zR l0, zI l1, zI l2]) (rest := []) zp207 rfl rfl (Nat.succ_pos _) rfl rfl (Nat.le_of_ble_eq_true rfl) (Nat.le_of_ble_eq_true rfl) rfl rfl h (fun x20 w21 H19 h => ?_)
      obtain ⟨c22, h⟩ := h
      exact ga_ret zp207 rfl (zret_r c22) ⟨_, rfl, h⟩
theorem zp208 : zprog.getD 208 [] = zk208 := rfl
theorem xa208_0 {w : zWt} {d : Nat} {H : zHt} {K : Int → zWt → zHt → Prop} {l0 : Int} {l1 : Int} {l2 : Int}
    (h : zcaV w d 209 [zI l1, zI l2] H (fun w3 H1 => ((0 : Int) ≤ (w32 (l2 - l1)) ∧ (w32 (l2 - l1)) ≤ (100000 : Int)) ∧ (∀ o5 : Int, o5 = (zNc w3) → ∀ w7 : zWt, w7 = (zwp w3 (100 + 2) (Int.toNat (w32 (l2 - l1)))) → ∀ H9 : zHt, H9 = (znew H1 (zNc w3) (fun _ => 0)) → ((0 : Int) ≤ o5) ∧ ((0 : Int) ≤ l0) ∧ (zSh w7 l0 102 (zsz w7 l0)) ∧ (∀ v14 : Int, v14 = (if w32 (l2 - l1) < w32 ((zsz w7 l0 : Int) - l1) then w32 (l2 - l1) else w32 ((zsz w7 l0 : Int) - l1)) → (zIsB w7 l0) ∧ (zSh w7 o5 102 (zsz w7 o5)) ∧ ((0 : Int) ≤ l1 ∧ (0 : Int) ≤ 0 ∧ (0 : Int) ≤ v14 ∧ l1 + v14 ≤ (zsz w7 l0 : Int) ∧ 0 + v14 ≤ (zsz w7 o5 : Int)) ∧ (∀ j : Nat, (j : Int) < v14 → zb8 (zM w7 H9 l0 (l1 + j)) = true) ∧ (∀ H20 : zHt, H20 = (zcpy H9 o5 0 v14 (fun j => zM w7 H9 l0 (l1 + j))) → K o5 w7 H20))))) :
    zcaR w (d + 1) 208 [zR l0, zI l1, zI l2] H K := by
  show zga w (d + 1) 208 0 [zR l0, zI l1, zI l2, zJ, zJ] [] H (zQaR K)
  refine ga_il zp208 rfl rfl rfl ?_
  refine ga_il zp208 rfl rfl rfl ?_
  refine ga_callV (as := [zI l1, zI l2]) (rest := []) zp208 rfl rfl (Nat.succ_pos _) rfl rfl (Nat.le_of_ble_eq_true rfl) (Nat.le_of_ble_eq_true rfl) rfl rfl h (fun w3 H1 h => ?_)
  refine ga_il zp208 rfl rfl rfl ?_
  refine ga_il zp208 rfl rfl rfl ?_
  refine ga_ar (r := w32 (l2 - l1)) zp208 rfl rfl rfl ?_
  refine ga_is (ls' := [zR l0, zI l1, zI l2, zI (w32 (l2 - l1)), zJ]) zp208 rfl rfl (Nat.le_of_ble_eq_true rfl) rfl ?_
  refine ga_il zp208 rfl rfl rfl ?_
  obtain ⟨c4, h⟩ := h
  refine ga_newa zp208 rfl rfl c4 (by decide) ?_
  let o5 : Int := zNc w3
  replace h := h o5 rfl
  let w7 : zWt := zwp w3 (100 + 2) (Int.toNat (w32 (l2 - l1)))
  replace h := h w7 rfl
  let H9 : zHt := znew H1 (zNc w3) (fun _ => 0)
  replace h := h H9 rfl
  obtain ⟨c11, h⟩ := h
  refine ga_as (ls' := [zR l0, zI l1, zI l2, zI (w32 (l2 - l1)), zR o5]) zp208 rfl rfl (Nat.le_of_ble_eq_true rfl) c11 rfl ?_
  obtain ⟨c12, h⟩ := h
  refine ga_al zp208 rfl rfl rfl c12 ?_
  refine ga_il zp208 rfl rfl rfl ?_
  refine ga_al zp208 rfl rfl rfl c11 ?_
  refine ga_ic zp208 rfl rfl ?_
  refine ga_al zp208 rfl rfl rfl c12 ?_
  obtain ⟨c13, h⟩ := h
  refine ga_lenS zp208 rfl rfl c13 (by decide) ?_
  refine ga_il zp208 rfl rfl rfl ?_
  refine ga_ar (r := w32 ((zsz w7 l0 : Int) - l1)) zp208 rfl rfl rfl ?_
  refine ga_il zp208 rfl rfl rfl ?_
  refine ga_mmin zp208 rfl rfl (Nat.le_of_ble_eq_true rfl) ?_
  let v14 : Int := if w32 (l2 - l1) < w32 ((zsz w7 l0 : Int) - l1) then w32 (l2 - l1) else w32 ((zsz w7 l0 : Int) - l1)
  replace h := h v14 rfl
  obtain ⟨c16, h⟩ := h
  obtain ⟨c17, h⟩ := h
  obtain ⟨c18, h⟩ := h
  obtain ⟨c19, h⟩ := h
  refine ga_acopy zp208 rfl rfl c16 c17 c18 c19 ?_
  let H20 : zHt := zcpy H9 o5 0 v14 (fun j => zM w7 H9 l0 (l1 + j))
  replace h := h H20 rfl
  refine ga_al zp208 rfl rfl rfl c11 ?_
  exact ga_ret zp208 rfl (zret_r c11) ⟨_, rfl, h⟩
theorem zp209 : zprog.getD 209 [] = zk209 := rfl
theorem xa209_0 {w : zWt} {d : Nat} {H : zHt} {K : zWt → zHt → Prop} {l0 : Int} {l1 : Int}
    (h : (l0 ≤ l1 → K w H) ∧ (l1 < l0 → False)) :
    zcaV w d 209 [zI l0, zI l1] H K := by
  show zga w d 209 0 [zI l0, zI l1] [] H (zQaV K)
  refine ga_il zp209 rfl rfl rfl ?_
  refine ga_il zp209 rfl rfl rfl ?_
  refine ga_icmp zp209 rfl rfl zc3 (fun c1 => ?_) (fun c1 => ?_)
  · replace h := h.1 c1
    exact ga_ret zp209 rfl rfl ⟨rfl, h⟩
  · replace h := h.2 c1
    exact h.elim
