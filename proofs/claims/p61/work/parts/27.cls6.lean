/-! the case load: the class's words, by the texts of the library -/
theorem zp22 : zprog.getD 22 [] = zk22 := rfl
theorem zp23 : zprog.getD 23 [] = zk23 := rfl
theorem zp24 : zprog.getD 24 [] = zk24 := rfl
theorem zp25 : zprog.getD 25 [] = zk25 := rfl
theorem zp26 : zprog.getD 26 [] = zk26 := rfl
theorem zp27 : zprog.getD 27 [] = zk27 := rfl
theorem zp28 : zprog.getD 28 [] = zk28 := rfl
theorem zp29 : zprog.getD 29 [] = zk29 := rfl
def zcd32 : List Int → Int → Int
  | [], c => c
  | b :: l, c => zcd32 l (w64 (w64 (c * 32) + w32 (w32 (b - 97) + 1)))
section Z74w
variable {w : zWt} {d : Nat} {H : zHt}
theorem c26 {o : Int} {K : Int → zHt → Prop} (ho : 2 ≤ o ∧ o < 10) : zclI w d 26 [zR o] H K = K 1 H := zclI_eq fun K h => by
  show zgo w d 26 0 [zR o] [] H (zQI K)
  refine g_stat (v := zI 1) zp26 rfl rfl rfl ?_
  refine g_if (P := False) (N := True) zp26 rfl rfl ⟨fun q => absurd q (by decide), fun _ => trivial⟩ (fun q => q.elim) (fun _ => ?_)
  refine g_al zp26 rfl rfl rfl (by omega) ?_
  refine g_sget (v := zI 0) zp26 rfl rfl ho rfl ?_
  refine g_if (P := False) (N := True) zp26 rfl rfl ⟨fun q => absurd q (by decide), fun _ => trivial⟩ (fun q => q.elim) (fun _ => ?_)
  refine g_ic zp26 rfl rfl ?_
  refine g_goto zp26 rfl ?_
  exact g_ret zp26 rfl rfl ⟨_, rfl, h⟩
theorem c24b {o : Int} {K : Int → zHt → Prop} (ho : 2 ≤ o ∧ o < 10) : zclI w d 24 [zR o] H K = K 0 H := zclI_eq fun K h => by
  show zgo w d 24 0 [zR o] [] H (zQI K)
  refine g_stat (v := zI 1) zp24 rfl rfl rfl ?_
  refine g_if (P := False) (N := True) zp24 rfl rfl ⟨fun q => absurd q (by decide), fun _ => trivial⟩ (fun q => q.elim) (fun _ => ?_)
  refine g_al zp24 rfl rfl rfl (by omega) ?_
  refine g_sget (v := zI 0) zp24 rfl rfl ho rfl ?_
  refine g_goto zp24 rfl ?_
  exact g_ret zp24 rfl rfl ⟨_, rfl, h⟩
theorem c23 {o : Int} {N : Nat} {K : Int → zHt → Prop} (ho : 2 ≤ o ∧ o < 10) (hs : zsh (zS w H) o = some (90, 2)) (hsh : zsh (zS w H) (o + 8) = some (91, N)) (hN : zshr (N : Int) 0 = (N : Int)) : zclI w (d + 1) 23 [zR o] H K = K (N : Int) H := zclI_eq fun K h => by
  show zgo w (d + 1) 23 0 [zR o] [] H (zQI K)
  refine g_al zp23 rfl rfl rfl (by omega) ?_
  refine g_sget (v := zR (o + 8)) zp23 rfl rfl ho rfl ?_
  refine g_len zp23 rfl rfl hsh (by decide) ?_
  refine g_al zp23 rfl rfl rfl (by omega) ?_
  refine g_callI (as := [zR o]) (rest := [zI N]) zp23 rfl rfl (Nat.succ_pos _) rfl rfl (Nat.le_of_ble_eq_true rfl) (Nat.le_of_ble_eq_true rfl) (zrecv_of hs rfl) rfl (K := fun x H' => x = 0 ∧ H = H') (by rw [c24b ho]; exact ⟨rfl, rfl⟩) (fun x H' q => ?_)
  obtain ⟨rfl, rfl⟩ := q
  refine g_ar (r := N) zp23 rfl rfl (by show some (zshr (N : Int) 0) = _; rw [hN]) ?_
  exact g_ret zp23 rfl rfl ⟨_, rfl, h⟩
theorem c29b {j : Int} {N : Nat} {K : Int → zHt → Prop} (hj : 0 ≤ j ∧ j < N) : zclI w d 29 [zI j, zI N, zO] H K = K j H := zclI_eq fun K h => by
  show zgo w d 29 0 [zI j, zI N, zO] [] H (zQI K)
  refine g_il zp29 rfl rfl rfl ?_
  refine g_if (P := j < 0) (N := True) zp29 rfl rfl ⟨fun q => of_decide_eq_true q, fun _ => trivial⟩ (fun q => by omega) (fun _ => ?_)
  refine g_il zp29 rfl rfl rfl ?_
  refine g_il zp29 rfl rfl rfl ?_
  refine g_icmp (P := True) (N := ¬ j < (N : Int)) zp29 rfl rfl ⟨fun _ => trivial, fun q => of_decide_eq_false q⟩ (fun _ => ?_) (fun q => absurd hj.2 q)
  refine g_il zp29 rfl rfl rfl ?_
  exact g_ret zp29 rfl rfl ⟨_, rfl, h⟩
theorem c28b {j : Int} {N : Nat} {K : zHt → Prop} (hj : 0 ≤ j ∧ j < N) : zclV w (d + 1) 28 [zI j, zI N] H K = K H := zclV_eq fun K h => by
  show zgo w (d + 1) 28 0 [zI j, zI N] [] H (zQV K)
  refine g_il zp28 rfl rfl rfl ?_
  refine g_il zp28 rfl rfl rfl ?_
  refine g_stat (v := zO) zp28 rfl rfl rfl ?_
  refine g_callI (as := [zI j, zI N, zO]) (rest := []) zp28 rfl rfl (Nat.succ_pos _) rfl rfl (Nat.le_of_ble_eq_true rfl) (Nat.le_of_ble_eq_true rfl) rfl rfl (K := fun x H' => x = j ∧ H = H') (by rw [c29b hj]; exact ⟨rfl, rfl⟩) (fun x H' q => ?_)
  obtain ⟨rfl, rfl⟩ := q
  refine g_pop zp28 rfl rfl rfl ?_
  exact g_ret zp28 rfl rfl ⟨rfl, h⟩
theorem c27 {o j z : Int} {N : Nat} {K : Int → zHt → Prop} (ho : 2 ≤ o ∧ o < 10) (hsh : zsh (zS w H) (o + 8) = some (91, N)) (hj : 0 ≤ j ∧ j < N) (hz : zM w H (o + 8) j = z) (ha : zand z 255 = z) (hb : 0 ≤ z ∧ z < 65536) : zclI w (d + 2) 27 [zR (o + 8), zI j] H K = K z H := zclI_eq fun K h => by
  show zgo w (d + 2) 27 0 [zR (o + 8), zI j] [] H (zQI K)
  refine g_il zp27 rfl rfl rfl ?_
  refine g_al zp27 rfl rfl rfl (by omega) ?_
  refine g_len zp27 rfl rfl hsh (by decide) ?_
  refine g_callV (as := [zI j, zI N]) (rest := []) zp27 rfl rfl (Nat.succ_pos _) rfl rfl (Nat.le_of_ble_eq_true rfl) (Nat.le_of_ble_eq_true rfl) rfl rfl (K := fun H' => H = H') (by show zclV w (d + 1) 28 _ H _; rw [c28b hj]) (fun H' q => ?_)
  subst q
  refine g_al zp27 rfl rfl rfl (by omega) ?_
  refine g_il zp27 rfl rfl rfl ?_
  refine g_ald (v := zI z) zp27 rfl rfl hsh rfl hj (by rw [hz]; rfl) ?_
  refine g_ic zp27 rfl rfl ?_
  refine g_ar (r := z) zp27 rfl rfl (by show some (zand z 255) = _; rw [ha]) ?_
  refine g_i2c zp27 rfl rfl hb ?_
  exact g_ret (r := zI z) zp27 rfl (by show (if 0 ≤ z ∧ z < 65536 then some (zI z) else none) = _; rw [if_pos hb]) ⟨_, rfl, h⟩
theorem c25b {o j z : Int} {N : Nat} {K : Int → zHt → Prop} (ho : 2 ≤ o ∧ o < 10) (hs : zsh (zS w H) o = some (90, 2)) (hsh : zsh (zS w H) (o + 8) = some (91, N)) (hj : 0 ≤ j ∧ j < N) (hz : zM w H (o + 8) j = z) (ha : zand z 255 = z) (hb : 0 ≤ z ∧ z < 65536) : zclI w (d + 3) 25 [zR o, zI j] H K = K z H := zclI_eq fun K h => by
  show zgo w (d + 3) 25 0 [zR o, zI j] [] H (zQI K)
  refine g_al zp25 rfl rfl rfl (by omega) ?_
  refine g_callI (as := [zR o]) (rest := []) zp25 rfl rfl (Nat.succ_pos _) rfl rfl (Nat.le_of_ble_eq_true rfl) (Nat.le_of_ble_eq_true rfl) (zrecv_of hs rfl) rfl (K := fun x H' => x = 1 ∧ H = H') (by rw [c26 ho]; exact ⟨rfl, rfl⟩) (fun x H' q => ?_)
  obtain ⟨rfl, rfl⟩ := q
  refine g_if (P := False) (N := True) zp25 rfl rfl ⟨fun q => absurd q (by decide), fun _ => trivial⟩ (fun q => q.elim) (fun _ => ?_)
  refine g_al zp25 rfl rfl rfl (by omega) ?_
  refine g_sget (v := zR (o + 8)) zp25 rfl rfl ho rfl ?_
  refine g_il zp25 rfl rfl rfl ?_
  refine g_callI (as := [zR (o + 8), zI j]) (rest := []) zp25 rfl rfl (Nat.succ_pos _) rfl rfl (Nat.le_of_ble_eq_true rfl) (Nat.le_of_ble_eq_true rfl) rfl rfl (K := fun x H' => x = z ∧ H = H') (by show zclI w (d + 2) 27 _ H _; rw [c27 ho hsh hj hz ha hb]; exact ⟨rfl, rfl⟩) (fun x H' q => ?_)
  obtain ⟨rfl, rfl⟩ := q
  exact g_ret (r := zI x) zp25 rfl (by show (if 0 ≤ x ∧ x < 65536 then some (zI x) else none) = _; rw [if_pos hb]) ⟨_, rfl, h⟩
theorem c22l {o : Int} {bs : List Int} {K : Int → zHt → Prop} (ho : 2 ≤ o ∧ o < 10) (hs : zsh (zS w H) o = some (90, 2)) (hsh : zsh (zS w H) (o + 8) = some (91, bs.length)) (hN : zshr (bs.length : Int) 0 = (bs.length : Int)) (h8 : bs.length ≤ 8) (hz : ∀ j : Nat, j < bs.length → zM w H (o + 8) j = bs.getD j 0) (hb : ∀ b ∈ bs, zand b 255 = b ∧ 0 ≤ b ∧ b < 65536) : ∀ (suf pre : List Int) (c : Int), bs = pre ++ suf → K (zcd32 suf c) H → zgo w (d + 4) 22 4 [zR o, zL c, zJ, zI (pre.length : Int)] [] H (zQL K) := by
  intro suf
  induction suf with
  | nil =>
    intro pre c hp hK
    rw [List.append_nil] at hp
    refine g_il zp22 rfl rfl rfl ?_
    refine g_al zp22 rfl rfl rfl (by omega) ?_
    refine g_callI (as := [zR o]) (rest := [zI (pre.length : Int)]) zp22 rfl rfl (Nat.succ_pos _) rfl rfl (Nat.le_of_ble_eq_true rfl) (Nat.le_of_ble_eq_true rfl) (zrecv_of hs rfl) rfl (K := fun x H' => x = bs.length ∧ H = H') (by show zclI w (d + 3) 23 _ H _; rw [c23 ho hs hsh hN]; exact ⟨rfl, rfl⟩) (fun x H' q => ?_)
    obtain ⟨rfl, rfl⟩ := q
    refine g_icmp (P := True) (N := ¬ (bs.length : Int) ≤ (pre.length : Int)) zp22 rfl rfl ⟨fun _ => trivial, fun q => of_decide_eq_false q⟩ (fun _ => ?_) (fun q => by rw [hp] at q; omega)
    refine g_ll zp22 rfl rfl rfl ?_
    exact g_ret zp22 rfl rfl ⟨_, rfl, hK⟩
  | cons b suf ih =>
    intro pre c hp hK
    have hl : bs.length = pre.length + (suf.length + 1) := by rw [hp, List.length_append]; rfl
    have hbm := hb b (by rw [hp]; simp)
    have hbz : zM w H (o + 8) (pre.length : Int) = b := by
      rw [hz pre.length (by omega), hp, List.getD_eq_getElem?_getD, List.getElem?_append_right (Nat.le_refl _), Nat.sub_self]; rfl
    refine g_il zp22 rfl rfl rfl ?_
    refine g_al zp22 rfl rfl rfl (by omega) ?_
    refine g_callI (as := [zR o]) (rest := [zI (pre.length : Int)]) zp22 rfl rfl (Nat.succ_pos _) rfl rfl (Nat.le_of_ble_eq_true rfl) (Nat.le_of_ble_eq_true rfl) (zrecv_of hs rfl) rfl (K := fun x H' => x = bs.length ∧ H = H') (by show zclI w (d + 3) 23 _ H _; rw [c23 ho hs hsh hN]; exact ⟨rfl, rfl⟩) (fun x H' q => ?_)
    obtain ⟨rfl, rfl⟩ := q
    refine g_icmp (P := (bs.length : Int) ≤ (pre.length : Int)) (N := True) zp22 rfl rfl ⟨fun q => of_decide_eq_true q, fun _ => trivial⟩ (fun q => by omega) (fun _ => ?_)
    refine g_ll zp22 rfl rfl rfl ?_
    refine g_lc zp22 rfl rfl ?_
    refine g_lar (r := w64 (c * 32)) zp22 rfl rfl rfl ?_
    refine g_al zp22 rfl rfl rfl (by omega) ?_
    refine g_il zp22 rfl rfl rfl ?_
    refine g_callI (as := [zR o, zI (pre.length : Int)]) (rest := [zL (w64 (c * 32))]) zp22 rfl rfl (Nat.succ_pos _) rfl rfl (Nat.le_of_ble_eq_true rfl) (Nat.le_of_ble_eq_true rfl) (zrecv_of hs rfl) rfl (K := fun x H' => x = b ∧ H = H') (by show zclI w (d + 3) 25 _ H _; rw [c25b ho hs hsh (by omega) hbz hbm.1 hbm.2]; exact ⟨rfl, rfl⟩) (fun x H' q => ?_)
    obtain ⟨rfl, rfl⟩ := q
    refine g_ic zp22 rfl rfl ?_
    refine g_ar (r := w32 (x - 97)) zp22 rfl rfl rfl ?_
    refine g_ic zp22 rfl rfl ?_
    refine g_ar (r := w32 (w32 (x - 97) + 1)) zp22 rfl rfl rfl ?_
    refine g_i2l zp22 rfl rfl ?_
    refine g_lar (r := w64 (w64 (c * 32) + w32 (w32 (x - 97) + 1))) zp22 rfl rfl rfl ?_
    refine g_ls (ls' := [zR o, zL (w64 (w64 (c * 32) + w32 (w32 (x - 97) + 1))), zJ, zI (pre.length : Int)]) zp22 rfl rfl (Nat.le_of_ble_eq_true rfl) rfl ?_
    refine g_inc (ls' := [zR o, zL (w64 (w64 (c * 32) + w32 (w32 (x - 97) + 1))), zJ, zI (w32 ((pre.length : Int) + 1))]) zp22 rfl rfl rfl rfl ?_
    refine g_goto zp22 rfl ?_
    rw [show w32 ((pre.length : Int) + 1) = ((pre ++ [x]).length : Int) by rw [w32_id (by omega), List.length_append]; simp]
    exact ih (pre ++ [x]) _ (by rw [hp, List.append_assoc]; rfl) hK
theorem c22 {o : Int} {bs : List Int} {K : Int → zHt → Prop} (ho : 2 ≤ o ∧ o < 10) (hs : zsh (zS w H) o = some (90, 2)) (hsh : zsh (zS w H) (o + 8) = some (91, bs.length)) (hN : zshr (bs.length : Int) 0 = (bs.length : Int)) (h8 : bs.length ≤ 8) (hz : ∀ j : Nat, j < bs.length → zM w H (o + 8) j = bs.getD j 0) (hb : ∀ b ∈ bs, zand b 255 = b ∧ 0 ≤ b ∧ b < 65536) : zclL w (d + 4) 22 [zR o] H K = K (zcd32 bs 0) H := zclL_eq fun K h => by
  show zgo w (d + 4) 22 0 [zR o, zJ, zJ, zJ] [] H (zQL K)
  refine g_lc zp22 rfl rfl ?_
  refine g_ls (ls' := [zR o, zL 0, zJ, zJ]) zp22 rfl rfl (Nat.le_of_ble_eq_true rfl) rfl ?_
  refine g_ic zp22 rfl rfl ?_
  refine g_is (ls' := [zR o, zL 0, zJ, zI 0]) zp22 rfl rfl (Nat.le_of_ble_eq_true rfl) rfl ?_
  exact c22l ho hs hsh hN h8 hz hb bs [] 0 rfl h
theorem c22_2 {K : Int → zHt → Prop} : zclL w (d + 4) 22 [zR 2] H K = K 18935 H := by
  rw [c22 (bs := [114, 111, 119]) (by omega) rfl rfl (by decide +kernel) (by decide) (fun j hj => by
    have hj : j < 3 := hj
    obtain rfl | rfl | rfl : j = 0 ∨ j = 1 ∨ j = 2 := by omega
    all_goals rfl) (by decide +kernel), show zcd32 [114, 111, 119] 0 = 18935 by decide +kernel]
theorem c22_3 {K : Int → zHt → Prop} : zclL w (d + 4) 22 [zR 3] H K = K 2610628 H := by
  rw [c22 (bs := [98, 111, 117, 110, 100]) (by omega) rfl rfl (by decide +kernel) (by decide) (fun j hj => by
    have hj : j < 5 := hj
    obtain rfl | rfl | rfl | rfl | rfl : j = 0 ∨ j = 1 ∨ j = 2 ∨ j = 3 ∨ j = 4 := by omega
    all_goals rfl) (by decide +kernel), show zcd32 [98, 111, 117, 110, 100] 0 = 2610628 by decide +kernel]
theorem c22_4 {K : Int → zHt → Prop} : zclL w (d + 4) 22 [zR 4] H K = K 20583955 H := by
  rw [c22 (bs := [115, 116, 101, 112, 115]) (by omega) rfl rfl (by decide +kernel) (by decide) (fun j hj => by
    have hj : j < 5 := hj
    obtain rfl | rfl | rfl | rfl | rfl : j = 0 ∨ j = 1 ∨ j = 2 ∨ j = 3 ∨ j = 4 := by omega
    all_goals rfl) (by decide +kernel), show zcd32 [115, 116, 101, 112, 115] 0 = 20583955 by decide +kernel]
theorem c22_5 {K : Int → zHt → Prop} : zclL w (d + 4) 22 [zR 5] H K = K 12343 H := by
  rw [c22 (bs := [108, 97, 119]) (by omega) rfl rfl (by decide +kernel) (by decide) (fun j hj => by
    have hj : j < 3 := hj
    obtain rfl | rfl | rfl : j = 0 ∨ j = 1 ∨ j = 2 := by omega
    all_goals rfl) (by decide +kernel), show zcd32 [108, 97, 119] 0 = 12343 by decide +kernel]
theorem c22_6 {K : Int → zHt → Prop} : zclL w (d + 4) 22 [zR 6] H K = K 17171758 H := by
  rw [c22 (bs := [112, 108, 97, 105, 110]) (by omega) rfl rfl (by decide +kernel) (by decide) (fun j hj => by
    have hj : j < 5 := hj
    obtain rfl | rfl | rfl | rfl | rfl : j = 0 ∨ j = 1 ∨ j = 2 ∨ j = 3 ∨ j = 4 := by omega
    all_goals rfl) (by decide +kernel), show zcd32 [112, 108, 97, 105, 110] 0 = 17171758 by decide +kernel]
theorem c22_7 {K : Int → zHt → Prop} : zclL w (d + 4) 22 [zR 7] H K = K 23028434521 H := by
  rw [c22 (bs := [117, 110, 105, 116, 97, 114, 121]) (by omega) rfl rfl (by decide +kernel) (by decide) (fun j hj => by
    have hj : j < 7 := hj
    obtain rfl | rfl | rfl | rfl | rfl | rfl | rfl : j = 0 ∨ j = 1 ∨ j = 2 ∨ j = 3 ∨ j = 4 ∨ j = 5 ∨ j = 6 := by omega
    all_goals rfl) (by decide +kernel), show zcd32 [117, 110, 105, 116, 97, 114, 121] 0 = 23028434521 by decide +kernel]
theorem c22_8 {K : Int → zHt → Prop} : zclL w (d + 4) 22 [zR 8] H K = K 19500010660 H := by
  rw [c22 (bs := [114, 101, 100, 117, 99, 101, 100]) (by omega) rfl rfl (by decide +kernel) (by decide) (fun j hj => by
    have hj : j < 7 := hj
    obtain rfl | rfl | rfl | rfl | rfl | rfl | rfl : j = 0 ∨ j = 1 ∨ j = 2 ∨ j = 3 ∨ j = 4 ∨ j = 5 ∨ j = 6 := by omega
    all_goals rfl) (by decide +kernel), show zcd32 [114, 101, 100, 117, 99, 101, 100] 0 = 19500010660 by decide +kernel]
theorem c22_9 {K : Int → zHt → Prop} : zclL w (d + 4) 22 [zR 9] H K = K 67141 H := by
  rw [c22 (bs := [98, 97, 114, 101]) (by omega) rfl rfl (by decide +kernel) (by decide) (fun j hj => by
    have hj : j < 4 := hj
    obtain rfl | rfl | rfl | rfl : j = 0 ∨ j = 1 ∨ j = 2 ∨ j = 3 := by omega
    all_goals rfl) (by decide +kernel), show zcd32 [98, 97, 114, 101] 0 = 67141 by decide +kernel]
theorem c21 {l : Int} {K : Int → zHt → Prop} : zclI w (d + 5) 21 [zL l] H K = K (if l = 18935 then 0 else if l = 2610628 then 1 else if l = 20583955 then 2 else if l = 12343 then 3 else -1) H := zclI_eq fun K h => x21_0 (by
  simp only [c22_2, c22_3, c22_4, c22_5]
  refine ⟨fun q1 => ?_, fun q1 => by rwa [if_pos q1] at h⟩
  rw [if_neg q1] at h
  refine ⟨fun q2 => ?_, fun q2 => by rwa [if_pos q2] at h⟩
  rw [if_neg q2] at h
  refine ⟨fun q3 => ?_, fun q3 => by rwa [if_pos q3] at h⟩
  rw [if_neg q3] at h
  exact ⟨fun q4 => by rwa [if_neg q4] at h, fun q4 => by rwa [if_pos q4] at h⟩)
theorem c32 {l : Int} {K : Int → zHt → Prop} : zclI w (d + 5) 32 [zL l] H K = K (if l = 17171758 then 0 else if l = 23028434521 then 1 else if l = 19500010660 then 2 else if l = 67141 then 3 else -1) H := zclI_eq fun K h => x32_0 (by
  simp only [c22_6, c22_7, c22_8, c22_9]
  refine ⟨fun q1 => ?_, fun q1 => by rwa [if_pos q1] at h⟩
  rw [if_neg q1] at h
  refine ⟨fun q2 => ?_, fun q2 => by rwa [if_pos q2] at h⟩
  rw [if_neg q2] at h
  refine ⟨fun q3 => ?_, fun q3 => by rwa [if_pos q3] at h⟩
  rw [if_neg q3] at h
  exact ⟨fun q4 => by rwa [if_neg q4] at h, fun q4 => by rwa [if_pos q4] at h⟩)
end Z74w
/-! the case load: TOKENS, by both -/
/-- as long as P holds, at most c -/
def zwh (P : Nat → Bool) : Nat → Nat → Nat
  | 0, p => p
  | c + 1, p => if P p = true then zwh P c (p + 1) else p
def zend (P : Nat → Bool) (N p : Nat) : Nat := zwh P (N - p) p
theorem zwh_b {P : Nat → Bool} : ∀ {c p : Nat}, p ≤ zwh P c p ∧ zwh P c p ≤ p + c
  | 0, p => ⟨Nat.le_refl _, Nat.le_refl _⟩
  | c + 1, p => by
    unfold zwh
    split
    · have := zwh_b (P := P) (c := c) (p := p + 1); omega
    · omega
theorem zend_b {P : Nat → Bool} {N p : Nat} (h : p ≤ N) : p ≤ zend P N p ∧ zend P N p ≤ N := by
  unfold zend
  have := zwh_b (P := P) (c := N - p) (p := p); omega
theorem zend_t {P : Nat → Bool} {N p : Nat} (h : p < N) (hp : P p = true) : zend P N p = zend P N (p + 1) := by
  unfold zend
  obtain ⟨c, hc⟩ : ∃ c, N - p = c + 1 := ⟨N - p - 1, by omega⟩
  rw [hc, show N - (p + 1) = c by omega]
  show (if P p = true then zwh P c (p + 1) else p) = _
  rw [if_pos hp]
theorem zend_f {P : Nat → Bool} {N p : Nat} (hp : P p = false) : zend P N p = p := by
  unfold zend
  cases N - p with
  | zero => rfl
  | succ c =>
    show (if P p = true then zwh P c (p + 1) else p) = _
    rw [hp]; rfl
theorem zend_n {P : Nat → Bool} {N p : Nat} (h : N ≤ p) : zend P N p = p := by
  unfold zend
  rw [show N - p = 0 by omega]; rfl
/-- all that lies between -/
theorem zend_in {P : Nat → Bool} {N : Nat} : ∀ {c p i : Nat}, p + c = N → p ≤ i → i < zend P N p → P i = true
  | 0, p, i, hc, h1, h2 => by rw [zend_n (by omega)] at h2; omega
  | c + 1, p, i, hc, h1, h2 => by
    cases hp : P p with
    | false => rw [zend_f hp] at h2; omega
    | true =>
      by_cases z : i = p
      · subst z; exact hp
      · rw [zend_t (by omega) hp] at h2
        exact zend_in (c := c) (by omega) (by omega) h2
def zbl (T : Nat → Int) (p : Nat) : Bool := decide (T p = 10 ∨ T p = 32)
def zlr (T : Nat → Int) (p : Nat) : Bool := decide (97 ≤ T p ∧ T p ≤ 122)
def zdi (T : Nat → Int) (p : Nat) : Bool := decide (48 ≤ T p ∧ T p ≤ 57)
def zqq (T : Nat → Int) (N p : Nat) : Nat := zend (zbl T) N p
def zle2 (T : Nat → Int) (N p : Nat) : Nat := zend (zlr T) N (zqq T N p)
def zde2 (T : Nat → Int) (N p : Nat) : Nat := zend (zdi T) N (zqq T N p)
/-- the kind of the TOKEN behind p: 0 the end, 1 a WORD, 2 a NUMBER, 3 the SIGN, 4 none -/
def zkd (T : Nat → Int) (N p : Nat) : Int := if N ≤ zqq T N p then 0 else if zqq T N p < zle2 T N p then (if zle2 T N p ≤ zqq T N p + 8 then 1 else 4) else if zqq T N p < zde2 T N p then (if zde2 T N p ≤ zqq T N p + 9 then 2 else 4) else if T (zqq T N p) = 59 then 3 else 4
def znx (T : Nat → Int) (N p : Nat) : Nat := if N ≤ zqq T N p then zqq T N p else if zqq T N p < zle2 T N p then zle2 T N p else if zqq T N p < zde2 T N p then zde2 T N p else zqq T N p + 1
/-- a WORD's letters, the last one first -/
def zlt2 (T : Nat → Int) (q : Nat) : Nat → List Int
  | 0 => []
  | k + 1 => (T (q + k) - 96) :: zlt2 T q k
def zwd (T : Nat → Int) (N p : Nat) : List Int := zlt2 T (zqq T N p) (zle2 T N p - zqq T N p)
def zcdw (b : Int) : List Int → Int
  | [] => 0
  | x :: l => zcdw b l * b + x
def zdg (T : Nat → Int) (q : Nat) : Nat → Int
  | 0 => 0
  | k + 1 => zdg T q k * 10 + (T (q + k) - 48)
def znm (T : Nat → Int) (N p : Nat) : Int := zdg T (zqq T N p) (zde2 T N p - zqq T N p)
theorem zkd_0 {T : Nat → Int} {N p : Nat} : zkd T N p = 0 ↔ N ≤ zqq T N p := by
  unfold zkd
  by_cases z : N ≤ zqq T N p
  · rw [if_pos z]; exact ⟨fun _ => z, fun _ => rfl⟩
  · rw [if_neg z]
    refine ⟨fun q => ?_, fun q => absurd q z⟩
    split at q
    · split at q <;> omega
    · split at q
      · split at q <;> omega
      · split at q <;> omega
theorem znx_b {T : Nat → Int} {N p : Nat} (h : p ≤ N) : p ≤ znx T N p ∧ znx T N p ≤ N ∧ (zkd T N p ≠ 0 → p < znx T N p) := by
  have h1 := zend_b (P := zbl T) h
  have h2 := zend_b (P := zlr T) (N := N) (p := zqq T N p) h1.2
  have h3 := zend_b (P := zdi T) (N := N) (p := zqq T N p) h1.2
  have h1 : p ≤ zqq T N p ∧ zqq T N p ≤ N := h1
  have h2 : zqq T N p ≤ zle2 T N p ∧ zle2 T N p ≤ N := h2
  have h3 : zqq T N p ≤ zde2 T N p ∧ zde2 T N p ≤ N := h3
  have hk := zkd_0 (T := T) (N := N) (p := p)
  unfold znx
  split
  · rename_i z
    exact ⟨by omega, by omega, fun q => absurd (hk.mpr z) q⟩
  · split
    · exact ⟨by omega, by omega, fun _ => by omega⟩
    · split
      · exact ⟨by omega, by omega, fun _ => by omega⟩
      · exact ⟨by omega, by omega, fun _ => by omega⟩
theorem zlt2_in {T : Nat → Int} {q : Nat} : ∀ {k : Nat}, (∀ i, i < k → 97 ≤ T (q + i) ∧ T (q + i) ≤ 122) → ∀ x ∈ zlt2 T q k, 1 ≤ x ∧ x ≤ 26
  | 0, _, x, hx => by cases hx
  | k + 1, h, x, hx => by
    rcases List.mem_cons.mp hx with z | z
    · have := h k (by omega)
      rw [z]; omega
    · exact zlt2_in (fun i hi => h i (by omega)) x z
theorem zlt2_len {T : Nat → Int} {q : Nat} : ∀ {k : Nat}, (zlt2 T q k).length = k
  | 0 => rfl
  | k + 1 => by show (zlt2 T q k).length + 1 = _; rw [zlt2_len]
theorem zcdw_b {b : Nat} (hb : 27 ≤ b) : ∀ {l : List Int}, (∀ x ∈ l, 1 ≤ x ∧ x ≤ 26) → 0 ≤ zcdw b l ∧ zcdw b l < ((b ^ l.length : Nat) : Int)
  | [], _ => ⟨Int.le_refl 0, by show (0 : Int) < ((b ^ 0 : Nat) : Int); rw [Nat.pow_zero]; decide⟩
  | x :: l, h => by
    obtain ⟨i1, i2⟩ := zcdw_b hb (fun y hy => h y (List.mem_cons_of_mem _ hy))
    have hx := h x List.mem_cons_self
    have e : ((b ^ (x :: l).length : Nat) : Int) = ((b ^ l.length : Nat) : Int) * (b : Int) := by
      rw [List.length_cons, Nat.pow_succ, Int.natCast_mul]
    rw [e]
    have m1 : 0 ≤ zcdw b l * (b : Int) := Int.mul_nonneg i1 (by omega)
    have m2 : (zcdw b l + 1) * (b : Int) ≤ ((b ^ l.length : Nat) : Int) * (b : Int) := Int.mul_le_mul_of_nonneg_right (by omega) (by omega)
    rw [Int.add_mul, Int.one_mul] at m2
    show 0 ≤ zcdw b l * (b : Int) + x ∧ zcdw b l * (b : Int) + x < _
    omega
theorem zcdw_inj {b : Nat} (hb : 27 ≤ b) : ∀ {l m : List Int}, (∀ x ∈ l, 1 ≤ x ∧ x ≤ 26) → (∀ x ∈ m, 1 ≤ x ∧ x ≤ 26) → zcdw b l = zcdw b m → l = m
  | [], [], _, _, _ => rfl
  | [], y :: m, _, h2, h => by
    obtain ⟨i1, -⟩ := zcdw_b hb (fun z hz => h2 z (List.mem_cons_of_mem _ hz))
    have hy := h2 y List.mem_cons_self
    have h : (0 : Int) = zcdw b m * (b : Int) + y := h
    have m1 : 0 ≤ zcdw b m * (b : Int) := Int.mul_nonneg i1 (by omega)
    omega
  | x :: l, [], h1, _, h => by
    obtain ⟨i1, -⟩ := zcdw_b hb (fun z hz => h1 z (List.mem_cons_of_mem _ hz))
    have hx := h1 x List.mem_cons_self
    have h : zcdw b l * (b : Int) + x = 0 := h
    have m1 : 0 ≤ zcdw b l * (b : Int) := Int.mul_nonneg i1 (by omega)
    omega
  | x :: l, y :: m, h1, h2, h => by
    have hx := h1 x List.mem_cons_self
    have hy := h2 y List.mem_cons_self
    have h : zcdw b l * (b : Int) + x = zcdw b m * (b : Int) + y := h
    have exy : x = y := by
      have e1 : (zcdw b l * (b : Int) + x) % (b : Int) = x := by
        rw [Int.add_comm, Int.add_mul_emod_self_right]; exact Int.emod_eq_of_lt (by omega) (by omega)
      have e2 : (zcdw b m * (b : Int) + y) % (b : Int) = y := by
        rw [Int.add_comm, Int.add_mul_emod_self_right]; exact Int.emod_eq_of_lt (by omega) (by omega)
      rw [← e1, ← e2, h]
    subst exy
    have e : zcdw b l * (b : Int) = zcdw b m * (b : Int) := by omega
    rw [zcdw_inj hb (fun z hz => h1 z (List.mem_cons_of_mem _ hz)) (fun z hz => h2 z (List.mem_cons_of_mem _ hz)) (Int.eq_of_mul_eq_mul_right (by omega) e)]
theorem zdg_b {T : Nat → Int} {q : Nat} : ∀ {k : Nat}, (∀ i, i < k → 48 ≤ T (q + i) ∧ T (q + i) ≤ 57) → 0 ≤ zdg T q k ∧ zdg T q k < ((10 ^ k : Nat) : Int)
  | 0, _ => ⟨Int.le_refl 0, by show (0 : Int) < ((10 ^ 0 : Nat) : Int); decide⟩
  | k + 1, h => by
    obtain ⟨i1, i2⟩ := zdg_b (T := T) (q := q) (k := k) (fun i hi => h i (by omega))
    have hx := h k (by omega)
    have e : ((10 ^ (k + 1) : Nat) : Int) = ((10 ^ k : Nat) : Int) * 10 := by rw [Nat.pow_succ, Int.natCast_mul]; rfl
    rw [e]
    show 0 ≤ zdg T q k * 10 + (T (q + k) - 48) ∧ zdg T q k * 10 + (T (q + k) - 48) < _
    omega
theorem zpow10 {k : Nat} (h : k ≤ 9) : ((10 ^ k : Nat) : Int) ≤ 1000000000 := by
  have : 10 ^ k ≤ 10 ^ 9 := Nat.pow_le_pow_right (by decide) h
  have e : (10 : Nat) ^ 9 = 1000000000 := by decide
  omega
theorem zpow32 {k b : Nat} (hb : b ≤ 32) (hb1 : 1 ≤ b) (h : k ≤ 8) : ((b ^ k : Nat) : Int) ≤ 1099511627776 := by
  have h1 : b ^ k ≤ 32 ^ k := Nat.pow_le_pow_left hb k
  have h2 : 32 ^ k ≤ 32 ^ 8 := Nat.pow_le_pow_right (by decide) h
  have e : (32 : Nat) ^ 8 = 1099511627776 := by decide
  omega
/-- the bytes: by the class, by the model -/
def zTx (H : zHt) (T : Nat → Int) (N : Nat) : Prop := N ≤ 400 ∧ ∀ k : Nat, k < N → H 34 k = T k ∧ 0 ≤ T k ∧ T k ≤ 255
/-! the case load: the class's TOKEN -/
def zf33 (H H' : zHt) : Prop := ∀ a j : Int, ¬ (a = 33 ∧ 3 ≤ j ∧ j ≤ 7) → H' a j = H a j
theorem zf33_up {H0 H : zHt} {j x : Int} (hj : 3 ≤ j ∧ j ≤ 7) (h : zf33 H0 H) : zf33 H0 (zup H 33 j x) := fun a i q => by
  rw [zq_ne (fun z => q ⟨z.1, by rw [z.2]; exact hj⟩)]; exact h a i q
/-- the TOKEN behind p, by the class -/
def zCt (H : zHt) (T : Nat → Int) (N p : Nat) : Prop := H 33 3 = (znx T N p : Nat) ∧ H 33 4 = (zqq T N p : Nat) ∧ H 33 5 = zkd T N p ∧ (zkd T N p = 1 → H 33 6 = zcdw 32 (zwd T N p)) ∧ (zkd T N p = 2 → H 33 7 = znm T N p)
section Z74i
variable {w : zWt} {d : Nat} {H : zHt} {T : Nat → Int} {N : Nat}
theorem c16l {P : Nat → Bool} {lo hi : Int} {K : Int → zHt → Prop} (hT : zTx H T N) (h2 : H 33 2 = (N : Int)) (hP : ∀ j : Nat, P j = decide (lo ≤ T j ∧ T j ≤ hi)) : ∀ (c j : Nat), j + c = N → K ((zend P N j : Nat) : Int) H → zgo w d 16 5 [zR 33, zI lo, zI hi, zI (j : Int)] [] H (zQI K) := by
  have h4 := hT.1
  intro c
  induction c with
  | zero =>
    intro j hj hK
    rw [zend_n (by omega)] at hK
    exact x16_5 ⟨fun _ => hK, fun q => by omega⟩
  | succ c ih =>
    intro j hj hK
    have ht := (hT.2 j (by omega)).1
    refine x16_5 ⟨fun q => by omega, fun _ => ⟨by omega, ?_⟩⟩
    rw [ht, zi1 (by omega)]
    refine ⟨fun q => ?_, fun q => ⟨fun q2 => ?_, fun q2 => ?_⟩⟩
    · rw [zend_f (by rw [hP]; exact decide_eq_false (by omega))] at hK; exact hK
    · rw [zend_f (by rw [hP]; exact decide_eq_false (by omega))] at hK; exact hK
    · rw [zend_t (by omega) (by rw [hP]; exact decide_eq_true ⟨q, q2⟩)] at hK
      exact ih (j + 1) (by omega) hK
theorem c16 {P : Nat → Bool} {lo hi : Int} {p : Nat} {K : Int → zHt → Prop} (hT : zTx H T N) (h2 : H 33 2 = (N : Int)) (h3 : H 33 3 = (p : Int)) (hp : p ≤ N) (hP : ∀ j : Nat, P j = decide (lo ≤ T j ∧ T j ≤ hi)) : zclI w d 16 [zR 33, zI lo, zI hi] H K = K ((zend P N p : Nat) : Int) H :=
  zclI_eq fun K hK => x16_0 (by rw [h3]; exact c16l hT h2 hP (N - p) p (by omega) hK)
theorem zTx_33 {H' : zHt} (f : zf33 H H') (hT : zTx H T N) : zTx H' T N := ⟨hT.1, fun k hk => by rw [f 34 k (by omega)]; exact hT.2 k hk⟩
theorem c17l {H0 : zHt} {q e : Nat} {k : Int} (he : e ≤ N) (hin : ∀ i : Nat, q ≤ i → i < e → 97 ≤ T i ∧ T i ≤ 122) (hk : k = 1 ∧ e ≤ q + 8 ∨ k = 4) : ∀ (c j : Nat) (H : zHt), j + c = e → q ≤ j → zf33 H0 H → zTx H T N → H 33 3 = (j : Int) → H 33 4 = (q : Int) → H 33 5 = k → (k = 1 → H 33 6 = zcdw 32 (zlt2 T q (j - q))) → zgo w d 17 20 [zR 33, zI (e : Int)] [] H (zQV fun H' => zf33 H0 H' ∧ H' 33 3 = (e : Int) ∧ H' 33 4 = (q : Int) ∧ H' 33 5 = k ∧ (k = 1 → H' 33 6 = zcdw 32 (zlt2 T q (e - q)))) := by
  intro c
  induction c with
  | zero =>
    intro j H hj hq hf hT h3 h4 h5 h6
    have : j = e := by omega
    subst this
    refine x17_20 ⟨fun _ => ⟨zf33_up (by omega) hf, zq_eq, by rw [zq_ne (by omega)]; exact h4, by rw [zq_ne (by omega)]; exact h5, fun z => by rw [zq_ne (by omega)]; exact h6 z⟩, fun z => by omega⟩
  | succ c ih =>
    intro j H hj hq hf hT h3 h4 h5 h6
    have h40 := hT.1
    refine x17_20 ⟨fun z => by omega, fun _ => ⟨fun z => ?_, fun z => ?_⟩⟩
    · exact ⟨zf33_up (by omega) hf, zq_eq, by rw [zq_ne (by omega)]; exact h4, by rw [zq_ne (by omega)]; exact h5, fun y => absurd (h5.trans y) z⟩
    · have hk1 : k = 1 := h5.symm.trans z
      have hle : e ≤ q + 8 := by omega
      have ht := (hT.2 j (by omega)).1
      have hb := hin j hq (by omega)
      have hcb := zcdw_b (b := 32) (by omega) (l := zlt2 T q (j - q)) (zlt2_in (fun i hi => hin (q + i) (by omega) (by omega)))
      rw [zlt2_len] at hcb
      have hp32 := zpow32 (b := 32) (k := j - q) (by omega) (by omega) (by omega)
      have hcb : 0 ≤ zcdw 32 (zlt2 T q (j - q)) ∧ zcdw 32 (zlt2 T q (j - q)) < ((32 ^ (j - q) : Nat) : Int) := hcb
      have hcb : 0 ≤ zcdw 32 (zlt2 T q (j - q)) ∧ zcdw 32 (zlt2 T q (j - q)) < 1099511627776 := ⟨hcb.1, by omega⟩
      rw [h3, ht, h6 hk1, zi1 (by omega)]
      refine ⟨by omega, ih (j + 1) _ (by omega) (by omega) (zf33_up (by omega) (zf33_up (by omega) hf)) (zTx_33 (zf33_up (by omega) (zf33_up (by omega) (fun _ _ _ => rfl))) hT) zq_eq (by rw [zq_ne (by omega), zq_ne (by omega)]; exact h4) (by rw [zq_ne (by omega), zq_ne (by omega)]; exact h5) (fun _ => ?_)⟩
      rw [zq_ne (by omega), zq_eq, show j + 1 - q = (j - q) + 1 by omega]
      show _ = zcdw 32 (zlt2 T q (j - q)) * 32 + (T (q + (j - q)) - 96)
      rw [show q + (j - q) = j by omega, w32_id (show _ ≤ T j - 97 ∧ _ by omega), w32_id (show _ ≤ T j - 97 + 1 ∧ _ by omega), w64_id (show _ ≤ zcdw 32 (zlt2 T q (j - q)) * 32 ∧ _ by omega), w64_id (by omega)]
      omega
theorem c18l {H0 : zHt} {q e : Nat} {k : Int} (he : e ≤ N) (hin : ∀ i : Nat, q ≤ i → i < e → 48 ≤ T i ∧ T i ≤ 57) (hk : k = 2 ∧ e ≤ q + 9 ∨ k = 4) : ∀ (c j : Nat) (H : zHt), j + c = e → q ≤ j → zf33 H0 H → zTx H T N → H 33 3 = (j : Int) → H 33 4 = (q : Int) → H 33 5 = k → (k = 2 → H 33 7 = zdg T q (j - q)) → zgo w d 18 20 [zR 33, zI (e : Int)] [] H (zQV fun H' => zf33 H0 H' ∧ H' 33 3 = (e : Int) ∧ H' 33 4 = (q : Int) ∧ H' 33 5 = k ∧ (k = 2 → H' 33 7 = zdg T q (e - q))) := by
  intro c
  induction c with
  | zero =>
    intro j H hj hq hf hT h3 h4 h5 h6
    have : j = e := by omega
    subst this
    refine x18_20 ⟨fun _ => ⟨zf33_up (by omega) hf, zq_eq, by rw [zq_ne (by omega)]; exact h4, by rw [zq_ne (by omega)]; exact h5, fun z => by rw [zq_ne (by omega)]; exact h6 z⟩, fun z => by omega⟩
  | succ c ih =>
    intro j H hj hq hf hT h3 h4 h5 h6
    have h40 := hT.1
    refine x18_20 ⟨fun z => by omega, fun _ => ⟨fun z => ?_, fun z => ?_⟩⟩
    · exact ⟨zf33_up (by omega) hf, zq_eq, by rw [zq_ne (by omega)]; exact h4, by rw [zq_ne (by omega)]; exact h5, fun y => absurd (h5.trans y) z⟩
    · have hk1 : k = 2 := h5.symm.trans z
      have ht := (hT.2 j (by omega)).1
      have hb := hin j hq (by omega)
      have hcb := zdg_b (T := T) (q := q) (k := j - q) (fun i hi => hin (q + i) (by omega) (by omega))
      have hp10 := zpow10 (k := j - q + 1) (by omega)
      have e10 : ((10 ^ (j - q + 1) : Nat) : Int) = ((10 ^ (j - q) : Nat) : Int) * 10 := by rw [Nat.pow_succ, Int.natCast_mul]; rfl
      rw [e10] at hp10
      have hcb : 0 ≤ zdg T q (j - q) ∧ zdg T q (j - q) < 100000000 := ⟨hcb.1, by omega⟩
      rw [h3, ht, h6 hk1, zi1 (by omega)]
      refine ⟨by omega, ih (j + 1) _ (by omega) (by omega) (zf33_up (by omega) (zf33_up (by omega) hf)) (zTx_33 (zf33_up (by omega) (zf33_up (by omega) (fun _ _ _ => rfl))) hT) zq_eq (by rw [zq_ne (by omega), zq_ne (by omega)]; exact h4) (by rw [zq_ne (by omega), zq_ne (by omega)]; exact h5) (fun _ => ?_)⟩
      rw [zq_ne (by omega), zq_eq, show j + 1 - q = (j - q) + 1 by omega]
      show _ = zdg T q (j - q) * 10 + (T (q + (j - q)) - 48)
      rw [show q + (j - q) = j by omega, w32_id (show _ ≤ T j - 48 ∧ _ by omega), w32_id (show _ ≤ zdg T q (j - q) * 10 ∧ _ by omega), w32_id (by omega)]
theorem c15b {H0 : zHt} {p q : Nat} (hp : p ≤ N) (hq : q = zqq T N p) (hf : zf33 H0 H) (hT : zTx H T N) (h2 : H 33 2 = (N : Int)) (h3 : H 33 3 = (q : Int)) : zgo w (d + 1) 15 52 [zR 33, zJ, zJ] [] H (zQV fun H' => zf33 H0 H' ∧ zCt H' T N p) := by
  have h40 := hT.1
  have b1 := zend_b (P := zbl T) hp
  have b1 : p ≤ zqq T N p ∧ zqq T N p ≤ N := b1
  have b2 : zqq T N p ≤ zle2 T N p ∧ zle2 T N p ≤ N := zend_b (P := zlr T) (N := N) (p := zqq T N p) b1.2
  have b3 : zqq T N p ≤ zde2 T N p ∧ zde2 T N p ≤ N := zend_b (P := zdi T) (N := N) (p := zqq T N p) b1.2
  have inl : ∀ i : Nat, zqq T N p ≤ i → i < zle2 T N p → 97 ≤ T i ∧ T i ≤ 122 := fun i i1 i2 => of_decide_eq_true (zend_in (P := zlr T) (c := N - zqq T N p) (by omega) i1 i2)
  have ind : ∀ i : Nat, zqq T N p ≤ i → i < zde2 T N p → 48 ≤ T i ∧ T i ≤ 57 := fun i i1 i2 => of_decide_eq_true (zend_in (P := zdi T) (c := N - zqq T N p) (by omega) i1 i2)
  subst hq
  refine x15_52 ?_
  rw [h3]
  have f1 : zf33 H0 (zup (zup (zup H 33 4 ((zqq T N p : Nat) : Int)) 33 6 0) 33 7 0) := zf33_up (by omega) (zf33_up (by omega) (zf33_up (by omega) hf))
  have g : zf33 H (zup (zup (zup H 33 4 ((zqq T N p : Nat) : Int)) 33 6 0) 33 7 0) := zf33_up (by omega) (zf33_up (by omega) (zf33_up (by omega) (fun _ _ _ => rfl)))
  have a3 : (zup (zup (zup H 33 4 ((zqq T N p : Nat) : Int)) 33 6 0) 33 7 0) 33 3 = ((zqq T N p : Nat) : Int) := by rw [zq_ne (by omega), zq_ne (by omega), zq_ne (by omega)]; exact h3
  have a4 : (zup (zup (zup H 33 4 ((zqq T N p : Nat) : Int)) 33 6 0) 33 7 0) 33 4 = ((zqq T N p : Nat) : Int) := by rw [zq_ne (by omega), zq_ne (by omega), zq_eq]
  have a6 : (zup (zup (zup H 33 4 ((zqq T N p : Nat) : Int)) 33 6 0) 33 7 0) 33 6 = 0 := by rw [zq_ne (by omega), zq_eq]
  have a7 : (zup (zup (zup H 33 4 ((zqq T N p : Nat) : Int)) 33 6 0) 33 7 0) 33 7 = 0 := zq_eq
  have a2 : (zup (zup (zup H 33 4 ((zqq T N p : Nat) : Int)) 33 6 0) 33 7 0) 33 2 = (N : Int) := (g 33 2 (by omega)).trans h2
  have aT := zTx_33 g hT
  generalize (zup (zup (zup H 33 4 ((zqq T N p : Nat) : Int)) 33 6 0) 33 7 0) = H1 at f1 a3 a4 a6 a7 a2 aT ⊢
  rw [c16 (P := zlr T) aT a2 a3 b1.2 (fun _ => rfl), c16 (P := zdi T) aT a2 a3 b1.2 (fun _ => rfl), a2, a3]
  rw [show zend (zlr T) N (zqq T N p) = zle2 T N p from rfl, show zend (zdi T) N (zqq T N p) = zde2 T N p from rfl]
  refine ⟨fun q1 => ⟨fun q2 => ⟨fun q3 => ⟨by omega, ?_⟩, fun q3 => ?_⟩, fun q2 => ?_⟩, fun q1 => ?_⟩
  · have ht := (aT.2 (zqq T N p) (by omega)).1
    have en : znx T N p = zqq T N p + 1 := by unfold znx; rw [if_neg (by omega), if_neg (by omega), if_neg (by omega)]
    have ek : zkd T N p = if T (zqq T N p) = 59 then 3 else 4 := by unfold zkd; rw [if_neg (by omega), if_neg (by omega), if_neg (by omega)]
    rw [ht, zi1 (by omega)]
    refine ⟨fun q4 => ⟨zf33_up (by omega) (zf33_up (by omega) f1), ?_⟩, fun q4 => ⟨zf33_up (by omega) (zf33_up (by omega) f1), ?_⟩⟩
    · rw [if_neg q4] at ek
      refine ⟨by rw [zq_eq, en], by rw [zq_ne (by omega), zq_ne (by omega)]; exact a4, by rw [zq_ne (by omega), zq_eq, ek], fun z => by omega, fun z => by omega⟩
    · rw [if_pos q4] at ek
      refine ⟨by rw [zq_eq, en], by rw [zq_ne (by omega), zq_ne (by omega)]; exact a4, by rw [zq_ne (by omega), zq_eq, ek], fun z => by omega, fun z => by omega⟩
  · have en : znx T N p = zde2 T N p := by unfold znx; rw [if_neg (by omega), if_neg (by omega), if_pos (by omega)]
    have ek : zkd T N p = if zde2 T N p ≤ zqq T N p + 9 then 2 else 4 := by unfold zkd; rw [if_neg (by omega), if_neg (by omega), if_pos (by omega)]
    have fin : ∀ k : Int, k = zkd T N p → zgo w d 18 20 [zR 33, zI ((zde2 T N p : Nat) : Int)] [] (zup H1 33 5 k) (zQV fun H' => zf33 H0 H' ∧ zCt H' T N p) := fun k hk => by
      refine g_mono (c18l (T := T) (N := N) (H0 := H0) (q := zqq T N p) (e := zde2 T N p) (k := k) b3.2 ind ?_ (zde2 T N p - zqq T N p) (zqq T N p) _ (by omega) (Nat.le_refl _) (zf33_up (by omega) f1) (zTx_33 (zf33_up (by omega) (fun _ _ _ => rfl)) aT) (by rw [zq_ne (by omega)]; exact a3) (by rw [zq_ne (by omega)]; exact a4) zq_eq (fun _ => by rw [zq_ne (by omega), Nat.sub_self]; exact a7)) (fun r H' h => ?_)
      · rw [hk, ek]
        by_cases z : zde2 T N p ≤ zqq T N p + 9
        · rw [if_pos z]; omega
        · rw [if_neg z]; omega
      · obtain ⟨h0, h1, h2, h3, h4, h5⟩ := h
        refine ⟨h0, h1, by rw [h2, en], h3, h4.trans hk, fun z => ?_, fun z => h5 (hk.trans z)⟩
        rw [ek] at z
        split at z <;> omega
    refine x18_0 ?_
    rw [a4, w32_id (by omega)]
    refine ⟨fun q4 => fin 4 ?_, fun q4 => fin 2 ?_⟩
    · rw [ek, if_neg (by omega)]
    · rw [ek, if_pos (by omega)]
  · have en : znx T N p = zle2 T N p := by unfold znx; rw [if_neg (by omega), if_pos (by omega)]
    have ek : zkd T N p = if zle2 T N p ≤ zqq T N p + 8 then 1 else 4 := by unfold zkd; rw [if_neg (by omega), if_pos (by omega)]
    have fin : ∀ k : Int, k = zkd T N p → zgo w d 17 20 [zR 33, zI ((zle2 T N p : Nat) : Int)] [] (zup H1 33 5 k) (zQV fun H' => zf33 H0 H' ∧ zCt H' T N p) := fun k hk => by
      refine g_mono (c17l (T := T) (N := N) (H0 := H0) (q := zqq T N p) (e := zle2 T N p) (k := k) b2.2 inl ?_ (zle2 T N p - zqq T N p) (zqq T N p) _ (by omega) (Nat.le_refl _) (zf33_up (by omega) f1) (zTx_33 (zf33_up (by omega) (fun _ _ _ => rfl)) aT) (by rw [zq_ne (by omega)]; exact a3) (by rw [zq_ne (by omega)]; exact a4) zq_eq (fun _ => by rw [zq_ne (by omega), Nat.sub_self]; exact a6)) (fun r H' h => ?_)
      · rw [hk, ek]
        by_cases z : zle2 T N p ≤ zqq T N p + 8
        · rw [if_pos z]; omega
        · rw [if_neg z]; omega
      · obtain ⟨h0, h1, h2, h3, h4, h5⟩ := h
        refine ⟨h0, h1, by rw [h2, en], h3, h4.trans hk, fun z => h5 (hk.trans z), fun z => ?_⟩
        rw [ek] at z
        split at z <;> omega
    refine x17_0 ?_
    rw [a4, w32_id (by omega)]
    refine ⟨fun q4 => fin 4 ?_, fun q4 => fin 1 ?_⟩
    · rw [ek, if_neg (by omega)]
    · rw [ek, if_pos (by omega)]
  · have en : znx T N p = zqq T N p := by unfold znx; rw [if_pos (by omega)]
    have ek : zkd T N p = 0 := zkd_0.mpr (by omega)
    exact ⟨zf33_up (by omega) f1, by rw [zq_ne (by omega), en]; exact a3, by rw [zq_ne (by omega)]; exact a4, by rw [zq_eq, ek], fun z => by omega, fun z => by omega⟩
theorem c15l {H0 : zHt} {p : Nat} (hp : p ≤ N) : ∀ (c j : Nat) (H : zHt), j + c = N → zend (zbl T) N j = zqq T N p → zf33 H0 H → zTx H T N → H 33 2 = (N : Int) → H 33 3 = (j : Int) → zclV w (d + 1) 15 [zR 33] H (fun H' => zf33 H0 H' ∧ zCt H' T N p) := by
  intro c
  induction c with
  | zero =>
    intro j H hj he hf hT h2 h3
    refine x15_0 ⟨fun _ => c15b hp (q := j) (by rw [← he, zend_n (by omega)]) hf hT h2 h3, fun q => by omega⟩
  | succ c ih =>
    intro j H hj he hf hT h2 h3
    have h40 := hT.1
    have ht := (hT.2 j (by omega)).1
    have stp : zbl T j = true → zclV w (d + 1) 15 [zR 33] (zup H 33 3 ((j + 1 : Nat) : Int)) (fun H' => zf33 H0 H' ∧ zCt H' T N p) := fun hb => by
      rw [zend_t (by omega) hb] at he
      exact ih (j + 1) _ (by omega) he (zf33_up (by omega) hf) (zTx_33 (zf33_up (by omega) (fun _ _ _ => rfl)) hT) (by rw [zq_ne (by omega)]; exact h2) zq_eq
    refine x15_0 ⟨fun q => by omega, fun _ => ?_⟩
    rw [h3, ht, zi1 (by omega)]
    refine ⟨by omega, fun q => ?_, fun q => ⟨fun q2 => ?_, fun q2 => ?_⟩⟩
    · exact stp (decide_eq_true (Or.inl q))
    · exact c15b hp (q := j) (by rw [← he, zend_f (decide_eq_false (by omega))]) hf hT h2 h3
    · exact stp (decide_eq_true (Or.inr q2))
theorem c15 {p : Nat} (hp : p ≤ N) (hT : zTx H T N) (h2 : H 33 2 = (N : Int)) (h3 : H 33 3 = (p : Int)) : ∃ H', (zf33 H H' ∧ zCt H' T N p) ∧ ∀ K : zHt → Prop, zclV w (d + 1) 15 [zR 33] H K = K H' :=
  zclV_ex (c15l hp (N - p) p H (by omega) rfl (fun _ _ _ => rfl) hT h2 h3)
end Z74i
