/-! the law's look at a number: the end -/
section ZY
variable {w : zWt} {d : Nat} {H0 H : zHt} {law : Nat}
theorem y175e {K : Int → zHt → Prop} {n : Nat} (hn : 1 ≤ n ∧ n ≤ 700) (hc : zcf H0 H) (K1 : ∀ H', zcf H0 H' → K 1 H') : zgo w (d + 30) 175 234 [zR 32, zI (n : Int), zJ, zJ, zJ, zJ, zJ, zJ, zI ((zDn (zfac n) : Nat) : Int), zJ, zL ((zSo 0 n n : Nat) : Int), zJ, zI (n : Int), zI ((zDn (zfac n) : Nat) : Int), zJ] [] H (zQI K) := by
  have hG := zfac_good w hn.1 (by omega : n ≤ 999999999)
  obtain ⟨g1, g2, g3, g4, g5, g6⟩ := zsig hn.1 (by omega : n < 4096)
  obtain ⟨d1, d2, d3, d4⟩ := zcnt_n (by omega) hG
  have hnn : n * n ≤ 700 * 700 := Nat.mul_le_mul hn.2 hn.2
  generalize zSo 0 n n = S at *
  generalize zDn (zfac n) = C at *
  have hnc : n * C ≤ 700 * 700 := Nat.mul_le_mul hn.2 (by omega)
  have hx1 := zlw_x (a := S) (b := n) (by omega) (by omega) (by omega)
  have hx2 := zlw_x (a := S) (b := C) (by omega) (by omega) (by omega)
  have hx3 := zlw_x (a := n * C) (b := S) (by omega) (by omega) (by omega)
  have ew : w64 ((n : Int) * (C : Int)) = ((n * C : Nat) : Int) := by rw [← Int.natCast_mul, w64_id (by omega)]
  refine x175_234 ⟨fun _ => ⟨fun q => absurd rfl q, fun _ => ?_⟩, fun q => by omega⟩
  refine y76 hc (by omega) (by decide) fun H1 c1 => y76 c1 (by omega) (by decide) fun H2 c2 => ?_
  rw [g1]
  refine ⟨fun q => absurd hx1 q, fun _ => ?_⟩
  refine y94 c2 (by omega) (by decide) fun H3 c3 => y94 c3 (by omega) (by decide) fun H4 c4 => ?_
  rw [if_pos rfl, if_pos rfl, g1, d1]
  refine ⟨fun _ => ?_, fun q => absurd hx2 q⟩
  refine y94 c4 (by omega) (by decide) fun H5 c5 => y94 c5 (by omega) (by decide) fun H6 c6 => ?_
  rw [if_neg (by decide), if_neg (by decide), g1, d1, ew]
  refine ⟨fun _ => ?_, fun q => absurd hx3 q⟩
  rw [show Int.tmod (n : Int) 2 = ((n % 2 : Nat) : Int) from rfl]
  refine ⟨fun q => y176 hn (by omega) c6 fun H7 c7 => ⟨Or.inr rfl, K1 H7 c7⟩, fun q => ?_⟩
  have hod : n % 2 = 1 := by omega
  have ea : zAgd n 0 = (5, -1) := by unfold zAgd; rw [if_pos ⟨by omega, by decide⟩, Int.toNat_natCast, if_pos hod]
  refine y63 c6 fun H7 c7 s7 => ?_
  rw [ea] at s7 ⊢
  refine ⟨fun z => absurd rfl z, fun _ => ?_⟩
  rw [c9, s7]
  exact ⟨fun z => absurd rfl z, fun _ => K1 H7 c7⟩
theorem y175d {K : Int → zHt → Prop} {n : Nat} (hn : 1 ≤ n ∧ n ≤ 700) (K1 : ∀ H', zcf H0 H' → K 1 H') : ∀ (suf pre : List Nat) (H : zHt), zdlo n n = pre ++ suf → zcf H0 H → (∀ x ∈ suf, pre.getLastD 0 < x) → zgo w (d + 30) 175 234 [zR 32, zI (n : Int), zJ, zJ, zJ, zJ, zJ, zJ, zI ((zDn (zfac n) : Nat) : Int), zJ, zL ((pre.sum : Nat) : Int), zJ, zI ((pre.getLastD 0 : Nat) : Int), zI (pre.length : Int), zJ] [] H (zQI K)
  | [], pre, H, hp, hc, _ => by
    rw [List.append_nil] at hp
    have hG := zfac_good w hn.1 (by omega : n ≤ 999999999)
    have hd := (zdlo_len hn.1 (by omega) hG).1
    have hs := (zsig hn.1 (by omega : n < 4096)).2.1
    have hl := zdlo_last hn.1
    rw [hp] at hd hs hl
    rw [hd, hs, hl]
    exact y175e hn hc K1
  | x :: suf, pre, H, hp, hc, hx => by
    have hG := zfac_good w hn.1 (by omega : n ≤ 999999999)
    have hd := (zdlo_len hn.1 (by omega) hG).1
    obtain ⟨_, hs, _, hs2, _⟩ := zsig hn.1 (by omega : n < 4096)
    have hnn : n * n ≤ 700 * 700 := Nat.mul_le_mul hn.2 hn.2
    have hsrt := @zdlo_srt n n
    have hmem : x ∈ zdlo n n := by rw [hp]; simp
    obtain ⟨m1, m2, m3⟩ := zdlo_mem.mp hmem
    have hxx := hx x List.mem_cons_self
    have hlen : (zdlo n n).length = pre.length + (suf.length + 1) := by rw [hp, List.length_append]; rfl
    have hget : (zdlo n n).getD pre.length 0 = x := by
      rw [hp, List.getD_eq_getElem?_getD, List.getElem?_append_right (Nat.le_refl _), Nat.sub_self]; rfl
    have hsum : pre.sum + x ≤ zSo 0 n n := by
      rw [← hs, hp, List.sum_append, List.sum_cons]; omega
    have hC : (zdlo n n).length ≤ 1400 := (zdlo_len hn.1 (by omega) hG).2
    rw [hp] at hsrt
    refine x175_234 ⟨fun q => by omega, fun _ => ?_⟩
    refine y70 hc (by omega) (by omega) fun H1 c1 _ => ?_
    have ea : (zAdiv n (pre.length : Int)).2 = (x : Int) := by
      unfold zAdiv
      rw [if_pos ⟨by omega, by omega⟩, if_neg (by omega), Int.toNat_natCast, if_neg (by omega), Int.toNat_natCast, hget]
    rw [ea]
    refine ⟨fun q => by omega, fun _ => ⟨by omega, fun _ => ?_, fun q => ?_⟩⟩
    · rw [w64_id (by omega), w32_id (by omega), show ((pre.sum : Nat) : Int) + (x : Int) = (((pre ++ [x]).sum : Nat) : Int) by rw [List.sum_append]; simp, show (pre.length : Int) + 1 = ((pre ++ [x]).length : Int) by rw [List.length_append]; rfl]
      have hla : (pre ++ [x]).getLastD 0 = x := by simp
      have := y175d hn K1 suf (pre ++ [x]) H1 (by rw [hp, List.append_assoc]; rfl) c1 (fun y hy => by
        rw [hla]
        exact (List.pairwise_cons.mp (List.pairwise_append.mp hsrt).2.1).1 y hy)
      rw [hla] at this
      exact this
    · rw [show Int.tmod (n : Int) (x : Int) = ((n % x : Nat) : Int) from rfl, m3] at q
      exact absurd rfl q
theorem y175 {K : Int → zHt → Prop} {n : Nat} (hB : zBs H0) (hl : H0 40 4 = law ∧ law < 4) (hn : 1 ≤ n ∧ n ≤ 700) (hc : zcf H0 H) (K1 : ∀ H', zcf H0 H' → K 1 H') : zclI w (d + 30) 175 [zR 32, zI (n : Int)] H K := by
  have hG := zfac_good w hn.1 (by omega : n ≤ 999999999)
  have go : ∀ H', zcf H0 H' → zclI w (d + 29) 42 [zR 32, zI (n : Int), zI (-1), zI 0] H' (fun x14 H13 => zgo w (d + 29 + 1) 175 76 [zR 32, zI (n : Int), zJ, zJ, zJ, zI x14, zL 1, zJ, zI 1, zI 1, zI 0, zJ, zJ, zJ, zJ] [] H13 (zQI K)) := fun H' hc' => by
    refine y42 hc' (by omega) fun H1 c1 _ => ?_
    rw [Int.toNat_natCast, show zfA (zfac n) (-1) 0 = ((zfac n).length : Int) from rfl]
    refine y175f (d := d + 25) (H0 := H0) hn rfl hG (fun H2 c2 => ?_) (zfac n) [] H1 1 rfl c1 (fun q hq => by have := (hG.2.1 q hq).1.1; omega)
    exact y175d hn K1 (zdlo n n) [] H2 rfl c2 (fun x hx => by
      obtain ⟨m1, m2, m3⟩ := zdlo_mem.mp hx
      show 0 < x
      omega)
  refine x175_0 ?_
  refine y41 hc fun H1 c1 => ?_
  rw [if_neg (by decide), if_neg (by decide), if_neg (by decide), if_pos rfl, hl.1]
  refine zn174 (d := d + 1) ⟨hn.1, by omega⟩ hl.2 ?_
  refine y51 hB c1 hl ⟨hn.1, by omega⟩ fun H2 c2 => ⟨fun q => absurd rfl q, fun _ => ?_⟩
  refine y61 hB c2 hl ⟨hn.1, by omega⟩ fun H3 c3 => ?_
  refine ⟨fun q => ⟨fun z => ⟨fun _ => go H3 c3, fun y => ?_⟩, fun z => ⟨fun _ => go H3 c3, fun y => ?_⟩⟩, fun q => ⟨fun _ => go H3 c3, fun y => ?_⟩⟩
  · rw [if_neg (by omega), if_neg (by omega)] at y; exact absurd rfl y
  · rw [if_neg (by omega), if_pos (by omega)] at y; exact absurd rfl y
  · rw [if_pos (by omega)] at y; exact absurd rfl y
end ZY
