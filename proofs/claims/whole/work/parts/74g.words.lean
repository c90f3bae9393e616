/-! the case load: the class's words, by the texts of the library -/
theorem zp22 : zprog.getD 22 [] = zk22 := rfl
theorem zp23 : zprog.getD 23 [] = zk23 := rfl
theorem zp24 : zprog.getD 24 [] = zk24 := rfl
theorem zp25 : zprog.getD 25 [] = zk25 := rfl
theorem zp26 : zprog.getD 26 [] = zk26 := rfl
theorem zp27 : zprog.getD 27 [] = zk27 := rfl
theorem zp28 : zprog.getD 28 [] = zk28 := rfl
theorem zp29 : zprog.getD 29 [] = zk29 := rfl
def zcd32 : List Int → Int → Int
  | [], c => c
  | b :: l, c => zcd32 l (w64 (w64 (c * 32) + w32 (w32 (b - 97) + 1)))
section Z74w
variable {w : zWt} {d : Nat} {H : zHt}
theorem c26 {o : Int} {K : Int → zHt → Prop} (ho : 2 ≤ o ∧ o < 10) : zclI w d 26 [zR o] H K = K 1 H := zclI_eq fun K h => by
  show zgo w d 26 0 [zR o] [] H (zQI K)
  refine g_stat (v := zI 1) zp26 rfl rfl rfl ?_
  refine g_if (P := False) (N := True) zp26 rfl rfl ⟨fun q => absurd q (by decide), fun _ => trivial⟩ (fun q => q.elim) (fun _ => ?_)
  refine g_al zp26 rfl rfl rfl (by omega) ?_
  refine g_sget (v := zI 0) zp26 rfl rfl ho rfl ?_
  refine g_if (P := False) (N := True) zp26 rfl rfl ⟨fun q => absurd q (by decide), fun _ => trivial⟩ (fun q => q.elim) (fun _ => ?_)
  refine g_ic zp26 rfl rfl ?_
  refine g_goto zp26 rfl ?_
  exact g_ret zp26 rfl rfl ⟨_, rfl, h⟩
theorem c24b {o : Int} {K : Int → zHt → Prop} (ho : 2 ≤ o ∧ o < 10) : zclI w d 24 [zR o] H K = K 0 H := zclI_eq fun K h => by
  show zgo w d 24 0 [zR o] [] H (zQI K)
  refine g_stat (v := zI 1) zp24 rfl rfl rfl ?_
  refine g_if (P := False) (N := True) zp24 rfl rfl ⟨fun q => absurd q (by decide), fun _ => trivial⟩ (fun q => q.elim) (fun _ => ?_)
  refine g_al zp24 rfl rfl rfl (by omega) ?_
  refine g_sget (v := zI 0) zp24 rfl rfl ho rfl ?_
  refine g_goto zp24 rfl ?_
  exact g_ret zp24 rfl rfl ⟨_, rfl, h⟩
theorem c23 {o : Int} {N : Nat} {K : Int → zHt → Prop} (ho : 2 ≤ o ∧ o < 10) (hs : zsh (zS w H) o = some (90, 2)) (hsh : zsh (zS w H) (o + 8) = some (91, N)) (hN : zshr (N : Int) 0 = (N : Int)) : zclI w (d + 1) 23 [zR o] H K = K (N : Int) H := zclI_eq fun K h => by
  show zgo w (d + 1) 23 0 [zR o] [] H (zQI K)
  refine g_al zp23 rfl rfl rfl (by omega) ?_
  refine g_sget (v := zR (o + 8)) zp23 rfl rfl ho rfl ?_
  refine g_len zp23 rfl rfl hsh (by decide) ?_
  refine g_al zp23 rfl rfl rfl (by omega) ?_
  refine g_callI (as := [zR o]) (rest := [zI N]) zp23 rfl rfl (Nat.succ_pos _) rfl rfl (Nat.le_of_ble_eq_true rfl) (Nat.le_of_ble_eq_true rfl) (zrecv_of hs rfl) rfl (K := fun x H' => x = 0 ∧ H = H') (by rw [c24b ho]; exact ⟨rfl, rfl⟩) (fun x H' q => ?_)
  obtain ⟨rfl, rfl⟩ := q
  refine g_ar (r := N) zp23 rfl rfl (by show some (zshr (N : Int) 0) = _; rw [hN]) ?_
  exact g_ret zp23 rfl rfl ⟨_, rfl, h⟩
theorem c29b {j : Int} {N : Nat} {K : Int → zHt → Prop} (hj : 0 ≤ j ∧ j < N) : zclI w d 29 [zI j, zI N, zO] H K = K j H := zclI_eq fun K h => by
  show zgo w d 29 0 [zI j, zI N, zO] [] H (zQI K)
  refine g_il zp29 rfl rfl rfl ?_
  refine g_if (P := j < 0) (N := True) zp29 rfl rfl ⟨fun q => of_decide_eq_true q, fun _ => trivial⟩ (fun q => by omega) (fun _ => ?_)
  refine g_il zp29 rfl rfl rfl ?_
  refine g_il zp29 rfl rfl rfl ?_
  refine g_icmp (P := True) (N := ¬ j < (N : Int)) zp29 rfl rfl ⟨fun _ => trivial, fun q => of_decide_eq_false q⟩ (fun _ => ?_) (fun q => absurd hj.2 q)
  refine g_il zp29 rfl rfl rfl ?_
  exact g_ret zp29 rfl rfl ⟨_, rfl, h⟩
theorem c28b {j : Int} {N : Nat} {K : zHt → Prop} (hj : 0 ≤ j ∧ j < N) : zclV w (d + 1) 28 [zI j, zI N] H K = K H := zclV_eq fun K h => by
  show zgo w (d + 1) 28 0 [zI j, zI N] [] H (zQV K)
  refine g_il zp28 rfl rfl rfl ?_
  refine g_il zp28 rfl rfl rfl ?_
  refine g_stat (v := zO) zp28 rfl rfl rfl ?_
  refine g_callI (as := [zI j, zI N, zO]) (rest := []) zp28 rfl rfl (Nat.succ_pos _) rfl rfl (Nat.le_of_ble_eq_true rfl) (Nat.le_of_ble_eq_true rfl) rfl rfl (K := fun x H' => x = j ∧ H = H') (by rw [c29b hj]; exact ⟨rfl, rfl⟩) (fun x H' q => ?_)
  obtain ⟨rfl, rfl⟩ := q
  refine g_pop zp28 rfl rfl rfl ?_
  exact g_ret zp28 rfl rfl ⟨rfl, h⟩
theorem c27 {o j z : Int} {N : Nat} {K : Int → zHt → Prop} (ho : 2 ≤ o ∧ o < 10) (hsh : zsh (zS w H) (o + 8) = some (91, N)) (hj : 0 ≤ j ∧ j < N) (hz : zM w H (o + 8) j = z) (ha : zand z 255 = z) (hb : 0 ≤ z ∧ z < 65536) : zclI w (d + 2) 27 [zR (o + 8), zI j] H K = K z H := zclI_eq fun K h => by
  show zgo w (d + 2) 27 0 [zR (o + 8), zI j] [] H (zQI K)
  refine g_il zp27 rfl rfl rfl ?_
  refine g_al zp27 rfl rfl rfl (by omega) ?_
  refine g_len zp27 rfl rfl hsh (by decide) ?_
  refine g_callV (as := [zI j, zI N]) (rest := []) zp27 rfl rfl (Nat.succ_pos _) rfl rfl (Nat.le_of_ble_eq_true rfl) (Nat.le_of_ble_eq_true rfl) rfl rfl (K := fun H' => H = H') (by show zclV w (d + 1) 28 _ H _; rw [c28b hj]) (fun H' q => ?_)
  subst q
  refine g_al zp27 rfl rfl rfl (by omega) ?_
  refine g_il zp27 rfl rfl rfl ?_
  refine g_ald (v := zI z) zp27 rfl rfl hsh rfl hj (by rw [hz]; rfl) ?_
  refine g_ic zp27 rfl rfl ?_
  refine g_ar (r := z) zp27 rfl rfl (by show some (zand z 255) = _; rw [ha]) ?_
  refine g_i2c zp27 rfl rfl hb ?_
  exact g_ret (r := zI z) zp27 rfl (by show (if 0 ≤ z ∧ z < 65536 then some (zI z) else none) = _; rw [if_pos hb]) ⟨_, rfl, h⟩
theorem c25b {o j z : Int} {N : Nat} {K : Int → zHt → Prop} (ho : 2 ≤ o ∧ o < 10) (hs : zsh (zS w H) o = some (90, 2)) (hsh : zsh (zS w H) (o + 8) = some (91, N)) (hj : 0 ≤ j ∧ j < N) (hz : zM w H (o + 8) j = z) (ha : zand z 255 = z) (hb : 0 ≤ z ∧ z < 65536) : zclI w (d + 3) 25 [zR o, zI j] H K = K z H := zclI_eq fun K h => by
  show zgo w (d + 3) 25 0 [zR o, zI j] [] H (zQI K)
  refine g_al zp25 rfl rfl rfl (by omega) ?_
  refine g_callI (as := [zR o]) (rest := []) zp25 rfl rfl (Nat.succ_pos _) rfl rfl (Nat.le_of_ble_eq_true rfl) (Nat.le_of_ble_eq_true rfl) (zrecv_of hs rfl) rfl (K := fun x H' => x = 1 ∧ H = H') (by rw [c26 ho]; exact ⟨rfl, rfl⟩) (fun x H' q => ?_)
  obtain ⟨rfl, rfl⟩ := q
  refine g_if (P := False) (N := True) zp25 rfl rfl ⟨fun q => absurd q (by decide), fun _ => trivial⟩ (fun q => q.elim) (fun _ => ?_)
  refine g_al zp25 rfl rfl rfl (by omega) ?_
  refine g_sget (v := zR (o + 8)) zp25 rfl rfl ho rfl ?_
  refine g_il zp25 rfl rfl rfl ?_
  refine g_callI (as := [zR (o + 8), zI j]) (rest := []) zp25 rfl rfl (Nat.succ_pos _) rfl rfl (Nat.le_of_ble_eq_true rfl) (Nat.le_of_ble_eq_true rfl) rfl rfl (K := fun x H' => x = z ∧ H = H') (by show zclI w (d + 2) 27 _ H _; rw [c27 ho hsh hj hz ha hb]; exact ⟨rfl, rfl⟩) (fun x H' q => ?_)
  obtain ⟨rfl, rfl⟩ := q
  exact g_ret (r := zI x) zp25 rfl (by show (if 0 ≤ x ∧ x < 65536 then some (zI x) else none) = _; rw [if_pos hb]) ⟨_, rfl, h⟩
theorem c22l {o : Int} {bs : List Int} {K : Int → zHt → Prop} (ho : 2 ≤ o ∧ o < 10) (hs : zsh (zS w H) o = some (90, 2)) (hsh : zsh (zS w H) (o + 8) = some (91, bs.length)) (hN : zshr (bs.length : Int) 0 = (bs.length : Int)) (h8 : bs.length ≤ 8) (hz : ∀ j : Nat, j < bs.length → zM w H (o + 8) j = bs.getD j 0) (hb : ∀ b ∈ bs, zand b 255 = b ∧ 0 ≤ b ∧ b < 65536) : ∀ (suf pre : List Int) (c : Int), bs = pre ++ suf → K (zcd32 suf c) H → zgo w (d + 4) 22 4 [zR o, zL c, zJ, zI (pre.length : Int)] [] H (zQL K) := by
  intro suf
  induction suf with
  | nil =>
    intro pre c hp hK
    rw [List.append_nil] at hp
    refine g_il zp22 rfl rfl rfl ?_
    refine g_al zp22 rfl rfl rfl (by omega) ?_
    refine g_callI (as := [zR o]) (rest := [zI (pre.length : Int)]) zp22 rfl rfl (Nat.succ_pos _) rfl rfl (Nat.le_of_ble_eq_true rfl) (Nat.le_of_ble_eq_true rfl) (zrecv_of hs rfl) rfl (K := fun x H' => x = bs.length ∧ H = H') (by show zclI w (d + 3) 23 _ H _; rw [c23 ho hs hsh hN]; exact ⟨rfl, rfl⟩) (fun x H' q => ?_)
    obtain ⟨rfl, rfl⟩ := q
    refine g_icmp (P := True) (N := ¬ (bs.length : Int) ≤ (pre.length : Int)) zp22 rfl rfl ⟨fun _ => trivial, fun q => of_decide_eq_false q⟩ (fun _ => ?_) (fun q => by rw [hp] at q; omega)
    refine g_ll zp22 rfl rfl rfl ?_
    exact g_ret zp22 rfl rfl ⟨_, rfl, hK⟩
  | cons b suf ih =>
    intro pre c hp hK
    have hl : bs.length = pre.length + (suf.length + 1) := by rw [hp, List.length_append]; rfl
    have hbm := hb b (by rw [hp]; simp)
    have hbz : zM w H (o + 8) (pre.length : Int) = b := by
      rw [hz pre.length (by omega), hp, List.getD_eq_getElem?_getD, List.getElem?_append_right (Nat.le_refl _), Nat.sub_self]; rfl
    refine g_il zp22 rfl rfl rfl ?_
    refine g_al zp22 rfl rfl rfl (by omega) ?_
    refine g_callI (as := [zR o]) (rest := [zI (pre.length : Int)]) zp22 rfl rfl (Nat.succ_pos _) rfl rfl (Nat.le_of_ble_eq_true rfl) (Nat.le_of_ble_eq_true rfl) (zrecv_of hs rfl) rfl (K := fun x H' => x = bs.length ∧ H = H') (by show zclI w (d + 3) 23 _ H _; rw [c23 ho hs hsh hN]; exact ⟨rfl, rfl⟩) (fun x H' q => ?_)
    obtain ⟨rfl, rfl⟩ := q
    refine g_icmp (P := (bs.length : Int) ≤ (pre.length : Int)) (N := True) zp22 rfl rfl ⟨fun q => of_decide_eq_true q, fun _ => trivial⟩ (fun q => by omega) (fun _ => ?_)
    refine g_ll zp22 rfl rfl rfl ?_
    refine g_lc zp22 rfl rfl ?_
    refine g_lar (r := w64 (c * 32)) zp22 rfl rfl rfl ?_
    refine g_al zp22 rfl rfl rfl (by omega) ?_
    refine g_il zp22 rfl rfl rfl ?_
    refine g_callI (as := [zR o, zI (pre.length : Int)]) (rest := [zL (w64 (c * 32))]) zp22 rfl rfl (Nat.succ_pos _) rfl rfl (Nat.le_of_ble_eq_true rfl) (Nat.le_of_ble_eq_true rfl) (zrecv_of hs rfl) rfl (K := fun x H' => x = b ∧ H = H') (by show zclI w (d + 3) 25 _ H _; rw [c25b ho hs hsh (by omega) hbz hbm.1 hbm.2]; exact ⟨rfl, rfl⟩) (fun x H' q => ?_)
    obtain ⟨rfl, rfl⟩ := q
    refine g_ic zp22 rfl rfl ?_
    refine g_ar (r := w32 (x - 97)) zp22 rfl rfl rfl ?_
    refine g_ic zp22 rfl rfl ?_
    refine g_ar (r := w32 (w32 (x - 97) + 1)) zp22 rfl rfl rfl ?_
    refine g_i2l zp22 rfl rfl ?_
    refine g_lar (r := w64 (w64 (c * 32) + w32 (w32 (x - 97) + 1))) zp22 rfl rfl rfl ?_
    refine g_ls (ls' := [zR o, zL (w64 (w64 (c * 32) + w32 (w32 (x - 97) + 1))), zJ, zI (pre.length : Int)]) zp22 rfl rfl (Nat.le_of_ble_eq_true rfl) rfl ?_
    refine g_inc (ls' := [zR o, zL (w64 (w64 (c * 32) + w32 (w32 (x - 97) + 1))), zJ, zI (w32 ((pre.length : Int) + 1))]) zp22 rfl rfl rfl rfl ?_
    refine g_goto zp22 rfl ?_
    rw [show w32 ((pre.length : Int) + 1) = ((pre ++ [x]).length : Int) by rw [w32_id (by omega), List.length_append]; simp]
    exact ih (pre ++ [x]) _ (by rw [hp, List.append_assoc]; rfl) hK
theorem c22 {o : Int} {bs : List Int} {K : Int → zHt → Prop} (ho : 2 ≤ o ∧ o < 10) (hs : zsh (zS w H) o = some (90, 2)) (hsh : zsh (zS w H) (o + 8) = some (91, bs.length)) (hN : zshr (bs.length : Int) 0 = (bs.length : Int)) (h8 : bs.length ≤ 8) (hz : ∀ j : Nat, j < bs.length → zM w H (o + 8) j = bs.getD j 0) (hb : ∀ b ∈ bs, zand b 255 = b ∧ 0 ≤ b ∧ b < 65536) : zclL w (d + 4) 22 [zR o] H K = K (zcd32 bs 0) H := zclL_eq fun K h => by
  show zgo w (d + 4) 22 0 [zR o, zJ, zJ, zJ] [] H (zQL K)
  refine g_lc zp22 rfl rfl ?_
  refine g_ls (ls' := [zR o, zL 0, zJ, zJ]) zp22 rfl rfl (Nat.le_of_ble_eq_true rfl) rfl ?_
  refine g_ic zp22 rfl rfl ?_
  refine g_is (ls' := [zR o, zL 0, zJ, zI 0]) zp22 rfl rfl (Nat.le_of_ble_eq_true rfl) rfl ?_
  exact c22l ho hs hsh hN h8 hz hb bs [] 0 rfl h
theorem c22_2 {K : Int → zHt → Prop} : zclL w (d + 4) 22 [zR 2] H K = K 18935 H := by
  rw [c22 (bs := [114, 111, 119]) (by omega) rfl rfl (by decide +kernel) (by decide) (fun j hj => by
    have hj : j < 3 := hj
    obtain rfl | rfl | rfl : j = 0 ∨ j = 1 ∨ j = 2 := by omega
    all_goals rfl) (by decide +kernel), show zcd32 [114, 111, 119] 0 = 18935 by decide +kernel]
theorem c22_3 {K : Int → zHt → Prop} : zclL w (d + 4) 22 [zR 3] H K = K 2610628 H := by
  rw [c22 (bs := [98, 111, 117, 110, 100]) (by omega) rfl rfl (by decide +kernel) (by decide) (fun j hj => by
    have hj : j < 5 := hj
    obtain rfl | rfl | rfl | rfl | rfl : j = 0 ∨ j = 1 ∨ j = 2 ∨ j = 3 ∨ j = 4 := by omega
    all_goals rfl) (by decide +kernel), show zcd32 [98, 111, 117, 110, 100] 0 = 2610628 by decide +kernel]
theorem c22_4 {K : Int → zHt → Prop} : zclL w (d + 4) 22 [zR 4] H K = K 20583955 H := by
  rw [c22 (bs := [115, 116, 101, 112, 115]) (by omega) rfl rfl (by decide +kernel) (by decide) (fun j hj => by
    have hj : j < 5 := hj
    obtain rfl | rfl | rfl | rfl | rfl : j = 0 ∨ j = 1 ∨ j = 2 ∨ j = 3 ∨ j = 4 := by omega
    all_goals rfl) (by decide +kernel), show zcd32 [115, 116, 101, 112, 115] 0 = 20583955 by decide +kernel]
theorem c22_5 {K : Int → zHt → Prop} : zclL w (d + 4) 22 [zR 5] H K = K 12343 H := by
  rw [c22 (bs := [108, 97, 119]) (by omega) rfl rfl (by decide +kernel) (by decide) (fun j hj => by
    have hj : j < 3 := hj
    obtain rfl | rfl | rfl : j = 0 ∨ j = 1 ∨ j = 2 := by omega
    all_goals rfl) (by decide +kernel), show zcd32 [108, 97, 119] 0 = 12343 by decide +kernel]
theorem c22_6 {K : Int → zHt → Prop} : zclL w (d + 4) 22 [zR 6] H K = K 17171758 H := by
  rw [c22 (bs := [112, 108, 97, 105, 110]) (by omega) rfl rfl (by decide +kernel) (by decide) (fun j hj => by
    have hj : j < 5 := hj
    obtain rfl | rfl | rfl | rfl | rfl : j = 0 ∨ j = 1 ∨ j = 2 ∨ j = 3 ∨ j = 4 := by omega
    all_goals rfl) (by decide +kernel), show zcd32 [112, 108, 97, 105, 110] 0 = 17171758 by decide +kernel]
theorem c22_7 {K : Int → zHt → Prop} : zclL w (d + 4) 22 [zR 7] H K = K 23028434521 H := by
  rw [c22 (bs := [117, 110, 105, 116, 97, 114, 121]) (by omega) rfl rfl (by decide +kernel) (by decide) (fun j hj => by
    have hj : j < 7 := hj
    obtain rfl | rfl | rfl | rfl | rfl | rfl | rfl : j = 0 ∨ j = 1 ∨ j = 2 ∨ j = 3 ∨ j = 4 ∨ j = 5 ∨ j = 6 := by omega
    all_goals rfl) (by decide +kernel), show zcd32 [117, 110, 105, 116, 97, 114, 121] 0 = 23028434521 by decide +kernel]
theorem c22_8 {K : Int → zHt → Prop} : zclL w (d + 4) 22 [zR 8] H K = K 19500010660 H := by
  rw [c22 (bs := [114, 101, 100, 117, 99, 101, 100]) (by omega) rfl rfl (by decide +kernel) (by decide) (fun j hj => by
    have hj : j < 7 := hj
    obtain rfl | rfl | rfl | rfl | rfl | rfl | rfl : j = 0 ∨ j = 1 ∨ j = 2 ∨ j = 3 ∨ j = 4 ∨ j = 5 ∨ j = 6 := by omega
    all_goals rfl) (by decide +kernel), show zcd32 [114, 101, 100, 117, 99, 101, 100] 0 = 19500010660 by decide +kernel]
theorem c22_9 {K : Int → zHt → Prop} : zclL w (d + 4) 22 [zR 9] H K = K 67141 H := by
  rw [c22 (bs := [98, 97, 114, 101]) (by omega) rfl rfl (by decide +kernel) (by decide) (fun j hj => by
    have hj : j < 4 := hj
    obtain rfl | rfl | rfl | rfl : j = 0 ∨ j = 1 ∨ j = 2 ∨ j = 3 := by omega
    all_goals rfl) (by decide +kernel), show zcd32 [98, 97, 114, 101] 0 = 67141 by decide +kernel]
theorem c21 {l : Int} {K : Int → zHt → Prop} : zclI w (d + 5) 21 [zL l] H K = K (if l = 18935 then 0 else if l = 2610628 then 1 else if l = 20583955 then 2 else if l = 12343 then 3 else -1) H := zclI_eq fun K h => x21_0 (by
  simp only [c22_2, c22_3, c22_4, c22_5]
  refine ⟨fun q1 => ?_, fun q1 => by rwa [if_pos q1] at h⟩
  rw [if_neg q1] at h
  refine ⟨fun q2 => ?_, fun q2 => by rwa [if_pos q2] at h⟩
  rw [if_neg q2] at h
  refine ⟨fun q3 => ?_, fun q3 => by rwa [if_pos q3] at h⟩
  rw [if_neg q3] at h
  exact ⟨fun q4 => by rwa [if_neg q4] at h, fun q4 => by rwa [if_pos q4] at h⟩)
theorem c32 {l : Int} {K : Int → zHt → Prop} : zclI w (d + 5) 32 [zL l] H K = K (if l = 17171758 then 0 else if l = 23028434521 then 1 else if l = 19500010660 then 2 else if l = 67141 then 3 else -1) H := zclI_eq fun K h => x32_0 (by
  simp only [c22_6, c22_7, c22_8, c22_9]
  refine ⟨fun q1 => ?_, fun q1 => by rwa [if_pos q1] at h⟩
  rw [if_neg q1] at h
  refine ⟨fun q2 => ?_, fun q2 => by rwa [if_pos q2] at h⟩
  rw [if_neg q2] at h
  refine ⟨fun q3 => ?_, fun q3 => by rwa [if_pos q3] at h⟩
  rw [if_neg q3] at h
  exact ⟨fun q4 => by rwa [if_neg q4] at h, fun q4 => by rwa [if_pos q4] at h⟩)
end Z74w
