/-! the law: from the boot to its end -/
theorem zlo_up {H G : zHt} {o i x : Int} (ho : 32 ≤ o) (h : ∀ a j : Int, a < 32 → H a j = G a j) : ∀ a j : Int, a < 32 → zup H o i x a j = G a j := fun a j q => by
  unfold zup
  rw [if_neg (by omega)]; exact h a j q
theorem zlo_new {H G : zHt} {o : Int} {f : Int → Int} (ho : 32 ≤ o) (h : ∀ a j : Int, a < 32 → H a j = G a j) : ∀ a j : Int, a < 32 → znew H o f a j = G a j := fun a j q => by
  unfold znew
  rw [if_neg (by omega)]; exact h a j q
theorem zhi_up {H G : zHt} {o i x : Int} (h : ∀ a j : Int, 32 ≤ a → H a j = G a j) : ∀ a j : Int, 32 ≤ a → zup H o i x a j = zup G o i x a j := fun a j q => by
  unfold zup
  split
  · rfl
  · exact h a j q
theorem zhi_new {H G : zHt} {o : Int} {f : Int → Int} (h : ∀ a j : Int, 32 ≤ a → H a j = G a j) : ∀ a j : Int, 32 ≤ a → znew H o f a j = znew G o f a j := fun a j q => by
  unfold znew
  split
  · rfl
  · exact h a j q
theorem zhi_0 {xs ys : Nat → Int32} : ∀ a j : Int, 32 ≤ a → zH0 xs a j = zH0 ys a j := fun a j q => by
  unfold zH0
  simp only [if_neg (show ¬ a = 0 by omega), if_neg (show ¬ a = 1 by omega), if_neg (show ¬ (10 ≤ a ∧ a < 18) by omega)]
abbrev zX0 : Nat → Int32 := fun _ => 0
theorem zHs_lo {xs : Nat → Int32} : ∀ a j : Int, a < 32 → zHs xs a j = zH0 xs a j := by
  unfold zHs zHs9 zHs8 zHs7 zHs6 zHs5 zHs4 zHs3 zHs2 zHs1
  repeat (first | refine zlo_up (by decide) ?_ | refine zlo_new (by decide) ?_)
  exact fun _ _ _ => rfl
theorem zHs_hi0 {xs : Nat → Int32} : ∀ a j : Int, 32 ≤ a → zHs xs a j = zHs zX0 a j := by
  unfold zHs zHs9 zHs8 zHs7 zHs6 zHs5 zHs4 zHs3 zHs2 zHs1
  repeat (first | refine zhi_up ?_ | refine zhi_new ?_)
  exact zhi_0
theorem zHs_hi {xs : Nat → Int32} {a : Int} (j : Int) (h : 32 ≤ a) : zHs xs a j = zHs zX0 a j := zHs_hi0 a j h
theorem zfx_in {a j v : Int} (ha : 32 ≤ a) (h : zfx a j = some v) : (a - 32).toNat < 49 ∧ 0 ≤ j ∧ j < 15 := by
  unfold zfx at h
  have hl : ∀ q, zSH[(a - 32).toNat]? = some q → (a - 32).toNat < 49 := fun q hq => by
    rcases Nat.lt_or_ge (a - 32).toNat 49 with z | z
    · exact z
    · rw [List.getElem?_eq_none (by exact z)] at hq; cases hq
  have hg : ∀ l : List (Option Int), l.length ≤ 15 → (if 0 ≤ j then l.getD j.toNat none else none) = some v → 0 ≤ j ∧ j < 15 := fun l hl hq => by
    split at hq
    · rename_i h0
      refine ⟨h0, ?_⟩
      rcases Nat.lt_or_ge j.toNat 15 with z | z
      · omega
      · rw [List.getD_eq_getElem?_getD, List.getElem?_eq_none (by omega)] at hq; cases hq
    · cases hq
  split at h
  · rename_i hq; refine ⟨hl _ hq, ?_⟩; split at h
    · omega
    · cases h
  · rename_i hq; refine ⟨hl _ hq, ?_⟩; split at h
    · omega
    · cases h
  · rename_i hq; refine ⟨hl _ hq, ?_⟩; split at h
    · omega
    · cases h
  · rename_i hq; refine ⟨hl _ hq, ?_⟩; split at h
    · omega
    · cases h
  · rename_i hq; refine ⟨hl _ hq, ?_⟩; split at h
    · omega
    · cases h
  · rename_i hq; exact ⟨hl _ hq, hg _ (by decide) h⟩
  · rename_i hq; refine ⟨hl _ hq, ?_⟩; split at h
    · omega
    · cases h
  · cases h
set_option maxRecDepth 20000 in
theorem zHs_fx0 : (List.range 49).all (fun a => (List.range 15).all (fun j => match zfx (32 + (a : Int)) (j : Int) with | some v => decide (zHs zX0 (32 + (a : Int)) (j : Int) = v) | none => true)) = true := by decide +kernel
theorem zM_boot {L : Nat} {xs : Nat → Int32} : zM (L, xs, []) (zHs xs) = zHs xs := by
  funext a j
  unfold zM
  split
  · rename_i h; exact (zHs_lo a j h).symm
  · rename_i h
    split
    · rename_i v hv
      have h32 : 32 ≤ a := by omega
      obtain ⟨h1, h2, h3⟩ := zfx_in h32 hv
      have e := List.all_eq_true.mp (List.all_eq_true.mp zHs_fx0 (a - 32).toNat (List.mem_range.mpr h1)) j.toNat (List.mem_range.mpr (by omega))
      rw [show (32 : Int) + ((a - 32).toNat : Int) = a by omega, show (j.toNat : Int) = j by omega, hv] at e
      rw [zHs_hi j h32]
      exact (of_decide_eq_true e).symm
    · rfl
theorem zHs_v : ([(40, 4, 0), (40, 1, 0), (40, 2, 100000), (40, 3, 30), (33, 8, 0)] : List (Int × Int × Int)).all (fun q => decide (zHs zX0 q.1 q.2.1 = q.2.2)) = true := by decide +kernel
theorem zHs_g {xs : Nat → Int32} {a j v : Int} (h : (a, j, v) ∈ ([(40, 4, 0), (40, 1, 0), (40, 2, 100000), (40, 3, 30), (33, 8, 0)] : List (Int × Int × Int))) (ha : 32 ≤ a) : zHs xs a j = v := by
  have := List.all_eq_true.mp zHs_v (a, j, v) h
  rw [zHs_hi j ha]
  exact of_decide_eq_true this
theorem zHs_b {xs : Nat → Int32} : zHs xs 40 1 = 0 ∧ zHs xs 40 2 = 100000 ∧ zHs xs 40 3 = 30 ∧ zHs xs 40 4 = 0 ∧ zHs xs 33 8 = 0 ∧ zBs (zHs xs) := by
  have e1 : zHs xs 40 1 = 0 := zHs_g (by decide) (by decide)
  have e2 : zHs xs 40 2 = 100000 := zHs_g (by decide) (by decide)
  have e3 : zHs xs 40 3 = 30 := zHs_g (by decide) (by decide)
  have e4 : zHs xs 40 4 = 0 := zHs_g (by decide) (by decide)
  refine ⟨e1, e2, e3, e4, zHs_g (by decide) (by decide), ?_, fun r _ h _ => by rw [e1] at h; omega⟩
  unfold zDk
  rw [e1, e2, e3, e4]
  exact ⟨by decide, trivial, trivial, trivial, trivial, by decide, by decide, by decide, fun k hk => by omega⟩
section ZE
variable {w w0 : zWt} {d : Nat} {H0 H : zHt}
/-- the last questions, and the rows before them -/
theorem z_ask {K : Int → zWt → zHt → Prop} (hT : zTold w0 H0) (hc : zcf H0 H) (K1 : ∀ H', K 1 w H') : zga w (d + 30) 0 141 [zJ, zR 32, zI (zDro w0 : Int), zI (zDro w0 : Int)] [] H (zQaI K) := by
  have hB := hT.bs
  have h40 := hT.1
  have b4 := zDro_r w0
  refine xa0_141 ⟨fun _ => ?_, fun q => by omega⟩
  obtain ⟨H1, k1, k2, k3, k4⟩ := a51 (w := w) (d := d + 24) (v := 0) (H := H) z_MR (hB.cf hc).1
  rw [k4, if_neg (by decide)]
  rw [if_neg (by decide)] at k3
  have c1 := zcf_k hc k1 k2
  refine ⟨fun q => absurd rfl q, fun _ => ?_⟩
  rw [c9, k3]
  refine ⟨fun q => absurd rfl q, fun _ => ?_⟩
  obtain ⟨H2, m1, m2, m3, m4⟩ := a42 (w := w) (d := d + 26) (v := 6) (i := -2) (t := 0) (H := H1) z_MR
  rw [m4, if_neg (by decide)]
  rw [if_neg (by decide)] at m3
  have c2 := zcf_k c1 m1 m2
  refine ⟨fun q => absurd rfl q, fun _ => ?_⟩
  rw [c9, m3]
  refine ⟨fun q => absurd rfl q, fun _ => ?_⟩
  refine y63 (n := 7) c2 fun H3 c3 s3 => ?_
  have e7 : zAgd 7 0 = (5, -1) := by unfold zAgd; rw [if_pos (by decide), if_pos (by decide)]
  rw [show ((7 : Nat) : Int) = 7 from rfl, e7] at s3 ⊢
  refine ⟨fun q => absurd rfl q, fun _ => ?_⟩
  rw [c9, s3]
  refine ⟨fun q => absurd rfl q, fun _ => ?_⟩
  refine zclI_mono (b107 z_MR (hB.cf c3).1 (hB.cf c3).2) fun x H4 q4 => ?_
  obtain ⟨q41, q42, q43⟩ := q4
  have e8 : zAr H3 (decide ((-1 : Int) ≤ 0)) (zDro w0 : Int) (zfval 0) = (2, -1) := by
    unfold zAr
    rw [if_pos (by decide), zcf40 c3, h40, if_neg (by omega)]
  rw [e8] at q41 q43
  have c4 := zcf_tr c3 q42
  rw [q41]
  refine ⟨fun q => absurd rfl q, fun _ => ?_⟩
  rw [c9, q43]
  refine ⟨fun q => absurd rfl q, fun _ => ?_⟩
  refine y70 (n := 6) c4 (by decide) (by decide) fun H5 c5 s5 => ?_
  have e9 : zAdiv 6 4 = (5, -1) := by
    unfold zAdiv
    rw [if_pos (by decide), if_neg (by decide), if_pos (by decide)]
  rw [show ((6 : Nat) : Int) = 6 from rfl, e9] at s5 ⊢
  refine ⟨fun q => absurd rfl q, fun _ => ?_⟩
  rw [c9, s5]
  refine ⟨fun q => absurd rfl q, fun _ => ?_⟩
  obtain ⟨H6, n1, n2, n3, n4⟩ := a41 (w := w) (d := d + 28) (v := 5) (H := H5)
  rw [n4, if_neg (by decide), if_neg (by decide), if_neg (by decide), if_neg (by decide), if_neg (by decide)]
  rw [if_neg (by decide)] at n3
  have c6 := zcf_k c5 n1 n2
  refine ⟨fun q => absurd rfl q, fun _ => ?_⟩
  rw [c9, n3]
  refine ⟨fun q => absurd rfl q, fun _ => ?_⟩
  rw [c40, if_pos rfl, zcf_at c6 (a := 32) (j := 12) rfl, hT.2.2.2.2.2.1]
  refine ⟨fun q => absurd rfl q, fun _ => ?_⟩
  rw [c40, if_neg (by decide), if_neg (by decide)]
  exact ⟨fun q => absurd rfl q, fun _ => K1 H6⟩
theorem z_rows {K : Int → zWt → zHt → Prop} (hT : zTold w0 H0) (K1 : ∀ H', K 1 w H') : ∀ (c r : Nat) (H : zHt), r + c = zDro w0 → zcf H0 H → zga w (d + 30) 0 141 [zJ, zR 32, zI (zDro w0 : Int), zI (r : Int)] [] H (zQaI K)
  | 0, r, H, hr, hc => by
    have : r = zDro w0 := by omega
    rw [this]
    exact z_ask hT hc K1
  | c + 1, r, H, hr, hc => by
    have b1 := zDla_r w0
    have b2 := zDbo_r w0
    have b3 := zDst_r w0
    have b4 := zDro_r w0
    have b5 := zDat_r w0 r
    obtain ⟨h1, h2, h3, h4, h5, h6, h7⟩ := hT
    refine xa0_141 ⟨fun q => by omega, fun _ => zcaI_of ?_⟩
    refine y177 (d := d) (law := zDla w0) (b := (zDbo w0 : Int)) (st := (zDst w0 : Int)) (n := (zDat w0 r : Int)) (zTold.bs ⟨h1, h2, h3, h4, h5, h6, h7⟩) ⟨h4, h2, h3, by rw [h1]; omega, h5 r (by omega)⟩ b1 (by omega) (by omega) (by omega) hc fun H1 c1 => ?_
    refine ⟨fun _ => ?_, fun q => absurd q (by decide)⟩
    rw [zqi1 (by omega)]
    exact z_rows ⟨h1, h2, h3, h4, h5, h6, h7⟩ K1 c (r + 1) H1 (by omega) c1
theorem z_nums {K : Int → zWt → zHt → Prop} (hT : zTold w0 H0) (K1 : ∀ H', K 1 w H') : ∀ (c z : Nat) (H : zHt), z + c = 14 → zcf H0 H → zga w (d + 31) 0 99 [zR 0, zR 32, zI (zDro w0 : Int), zI (z : Int)] [] H (zQaI K)
  | 0, z, H, hz, hc => by
    refine xa0_99 ⟨fun _ => z_rows (d := d + 1) hT K1 (zDro w0) 0 H (Nat.zero_add _) hc, fun _ => ⟨fun _ => z_rows (d := d + 1) hT K1 (zDro w0) 0 H (Nat.zero_add _) hc, fun q => by omega⟩⟩
  | c + 1, z, H, hz, hc => by
    have b1 := zDla_r w0
    refine xa0_99 ⟨fun _ => z_rows (d := d + 1) hT K1 (zDro w0) 0 H (Nat.zero_add _) hc, fun q => ⟨fun q2 => by omega, fun _ => ⟨⟨by omega, q⟩, ?_⟩⟩⟩
    have hp := (@zDpa_e (zshr (zH0 w.2.1 0 z) 2) 700 (by decide)).2
    refine zj171 (n := 700) (by decide) (zcaI_of ?_)
    rw [show w32 (1 + ((zDpa (zshr (zH0 w.2.1 0 z) 2) 700 : Nat) : Int)) = ((1 + zDpa (zshr (zH0 w.2.1 0 z) 2) 700 : Nat) : Int) by rw [w32_id (by omega)]; omega]
    refine y175 (d := d) (law := zDla w0) hT.bs ⟨hT.2.2.2.1, b1⟩ (by omega) hc fun H1 c1 => ?_
    refine ⟨fun _ => ?_, fun q => absurd q (by decide)⟩
    rw [zqi1 (by omega)]
    exact z_nums hT K1 c (z + 1) H1 (by omega) c1
end ZE
theorem z_law {L : Nat} {xs : Nat → Int32} : zga (L, xs, []) 2000 0 8 [zR 0, zR 32, zJ, zJ] [] (zHs xs) (zQaI fun x w' _ => x = 1 ∧ zGw 100 (L, xs, []) w') := by
  obtain ⟨e1, e2, e3, e4, e5, hB⟩ := @zHs_b xs
  generalize hw : ((L, xs, []) : zWt) = w
  have hc : zcf (zHs xs) (zHs xs) := zcf_rfl
  refine xa0_8 (d := 1999) ?_
  refine y41 hc fun H1 c1 => ?_
  rw [if_pos rfl, e1]
  refine ⟨fun q => absurd rfl q, fun _ => y41 c1 fun H2 c2 => ?_⟩
  rw [if_neg (by decide), if_pos rfl, e2]
  refine ⟨fun q => absurd rfl q, fun _ => y41 c2 fun H3 c3 => ?_⟩
  rw [if_neg (by decide), if_neg (by decide), if_pos rfl, e3]
  refine ⟨fun q => absurd rfl q, fun _ => y41 c3 fun H4 c4 => ?_⟩
  rw [if_neg (by decide), if_neg (by decide), if_neg (by decide), if_pos rfl, e4]
  refine ⟨fun q => absurd rfl q, fun _ => ?_⟩
  obtain ⟨H5, k1, k2, k3, k4⟩ := a105 (w := w) (d := 1998) (v := 0) (H := H4) (hB.cf c4).1
  have c5 := zcf_k c4 k1 k2
  rw [zcf40 c4, e1, if_neg (by decide)] at k3
  rw [k4, zcf40 c4, e1, if_neg (by decide)]
  refine ⟨fun q => absurd rfl q, fun _ => ?_⟩
  rw [c9, k3]
  refine ⟨fun _ => ?_, fun q => absurd rfl q⟩
  refine zj180 (d := 1990) fun s w1 H6 ht hf => ?_
  have h8 : H6 33 8 = 0 := by rw [hf.2.2.2 33 (by decide), zcf_at c5 (a := 33) (j := 8) rfl, e5]
  refine zj179 (d := 1987) ht h8 fun w2 H7 hg hT => ?_
  have b4 := zDro_r w
  have b1 := zDla_r w
  refine ⟨fun q => by omega, fun _ => ?_⟩
  have hB7 := hT.bs
  have hc7 : zcf H7 H7 := zcf_rfl
  refine y51 (n := 1) (law := zDla w) hB7 hc7 ⟨hT.2.2.2.1, b1⟩ (by decide) fun H8 c8 => ?_
  refine ⟨fun q => absurd rfl q, fun _ => ?_⟩
  refine y61 (n := 1) (law := zDla w) hB7 c8 ⟨hT.2.2.2.1, b1⟩ (by decide) fun H9 c9' => ?_
  refine ⟨fun _ => ?_, fun q => absurd rfl q⟩
  refine z_nums (d := 1969) hT (fun H' => ⟨rfl, (hf.gw.tr hg).le (by decide)⟩) 12 2 H9 (by decide) c9'
theorem zSHx_e (E : List (Nat × Nat)) : zSHx E = zSH ++ E := rfl
theorem z_all {L : Nat} {xs : Nat → Int32} : zRun L xs := by
  obtain ⟨n, r, w', H', hex, -, -, x, rfl, rfl, hg⟩ := @z_law L xs
  have e : zS (L, xs, []) (zHs xs) = (L, zSH, zHs xs) := by unfold zS; rw [zM_boot]; rfl
  rw [e] at hex
  obtain ⟨n2, r2, S2, h2, rfl, rfl⟩ := z_boot (L := L) (xs := xs) (Q := fun r S => r = zI 1 ∧ S = zS w' H') ⟨n, _, _, hex, rfl, rfl⟩
  have g1 : w'.2.2.length ≤ 0 + 100 := hg.2.1
  have g2 : (w'.2.2.map Prod.snd).sum ≤ 0 + 1000 * 100 := hg.2.2
  refine ⟨n2, _, h2, ?_, ?_⟩
  · show (zSHx w'.2.2).length ≤ 600000
    rw [zSHx_len]; omega
  · show ((zSHx w'.2.2).map Prod.snd).sum ≤ 7302250
    rw [zSHx_e, List.map_append, List.sum_append]
    have : (zSH.map Prod.snd).sum ≤ 100000 := by decide
    omega
