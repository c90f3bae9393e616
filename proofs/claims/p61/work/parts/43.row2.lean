/-! the law's look at a row -/
section ZY
variable {w : zWt} {d : Nat} {H0 H : zHt} {law : Nat} {b st n : Int} {r : Nat}
theorem zAr_n {g : Bool} {f : List Int × Int × Int → Int × Int} (hB : H0 40 4 = law ∧ H0 40 2 = b ∧ H0 40 3 = st ∧ (r : Int) < H0 40 1 ∧ H0 41 r = n) (hc : zcf H0 H) (hg : g = true) : zAr H g r f = f (zrow law b st n) := by
  unfold zAr zRW
  rw [if_pos hg, zcf40 hc, zcf40 hc, zcf40 hc, zcf40 hc, zcf41 hc, if_pos ⟨by omega, hB.2.2.2.1⟩, hB.1, hB.2.1, hB.2.2.1, hB.2.2.2.2]
theorem y107 {k : Int} {K : Int → zHt → Prop} (hBs : zBs H0) (hB : H0 40 4 = law ∧ H0 40 2 = b ∧ H0 40 3 = st ∧ (r : Int) < H0 40 1 ∧ H0 41 r = n) (hc : zcf H0 H) (hk : -1 ≤ k) (h : ∀ H', zcf H0 H' → H' 32 14 = (zfval k (zrow law b st n)).1 → K (zfval k (zrow law b st n)).2 H') : zclI w (d + 6) 107 [zR 32, zI (r : Int), zI k] H K :=
  zclI_mono (b107 z_MR (hBs.cf hc).1 (hBs.cf hc).2) fun x H' q => by
    obtain ⟨q1, q2, q3⟩ := q
    rw [zAr_n hB hc (decide_eq_true hk)] at q1 q3
    rw [q1]
    exact h H' (zcf_tr hc q2) q3
theorem y107k {k : Nat} {K : Int → zHt → Prop} (hBs : zBs H0) (hB : H0 40 4 = law ∧ H0 40 2 = b ∧ H0 40 3 = st ∧ (r : Int) < H0 40 1 ∧ H0 41 r = n) (hc : zcf H0 H) (hk : k < (zrow law b st n).1.length) (h : ∀ H', zcf H0 H' → K ((zrow law b st n).1.getD k 0) H') : zclI w (d + 6) 107 [zR 32, zI (r : Int), zI (k : Int)] H K :=
  y107 hBs hB hc (by omega) fun H' c _ => by
    have e : (zfval (k : Int) (zrow law b st n)).2 = (zrow law b st n).1.getD k 0 := by
      unfold zfval
      rw [if_neg (by omega), if_pos (by omega), Int.toNat_natCast]
    rw [e]
    exact h H' c
theorem y111 {K : Int → zHt → Prop} (hBs : zBs H0) (hB : H0 40 4 = law ∧ H0 40 2 = b ∧ H0 40 3 = st ∧ (r : Int) < H0 40 1 ∧ H0 41 r = n) (hc : zcf H0 H) (h : ∀ H', zcf H0 H' → K (zrow law b st n).2.1 H') : zclI w (d + 6) 111 [zR 32, zI (r : Int)] H K :=
  zclI_mono (b111 z_MR (hBs.cf hc).1 (hBs.cf hc).2) fun x H' q => by
    obtain ⟨q1, q2, q3⟩ := q
    rw [zAr_n hB hc rfl] at q1
    rw [q1]
    exact h H' (zcf_tr hc q2)
theorem y112 {t : Int} {K : Int → zHt → Prop} (hBs : zBs H0) (hB : H0 40 4 = law ∧ H0 40 2 = b ∧ H0 40 3 = st ∧ (r : Int) < H0 40 1 ∧ H0 41 r = n) (hc : zcf H0 H) (ht : 0 ≤ t ∧ t ≤ 2) (h : ∀ H', zcf H0 H' → H' 32 14 = (zfrnd t (zrow law b st n)).1 → K (zfrnd t (zrow law b st n)).2 H') : zclI w (d + 6) 112 [zR 32, zI (r : Int), zI t] H K :=
  zclI_mono (b112 z_MR (hBs.cf hc).1 (hBs.cf hc).2) fun x H' q => by
    obtain ⟨q1, q2, q3⟩ := q
    rw [zAr_n hB hc (decide_eq_true ht)] at q1 q3
    rw [q1]
    exact h H' (zcf_tr hc q2) q3
theorem y174 {v : Int} {K : Int → zHt → Prop} (hl : law < 4) (hv : 1 ≤ v ∧ v ≤ 4095) (h : K (zsum law v.toNat) H) : zclL w (d + 28) 174 [zI v, zI (law : Int)] H K := by
  obtain ⟨m, rfl⟩ : ∃ m : Nat, v = m := ⟨v.toNat, by omega⟩
  rw [Int.toNat_natCast, (zck_n (by omega) (by omega)).2 law hl] at h
  exact zn174 ⟨by omega, by omega⟩ hl h
/-- the round: all not below the least, and one of them it -/
theorem y177r {K : Int → zHt → Prop} {le : Int} {M : Nat} (hBs : zBs H0) (hB : H0 40 4 = law ∧ H0 40 2 = b ∧ H0 40 3 = st ∧ (r : Int) < H0 40 1 ∧ H0 41 r = n) (hM : (zrow law b st n).1.length = M) (hM2 : M ≤ 101) (K1 : ∀ H', zcf H0 H' → K 1 H') (hle : ∀ k : Nat, k < M → True) : ∀ (c k : Nat) (H : zHt) (f : Int), k + c = M → zcf H0 H → (∀ j : Nat, k ≤ j → j < M → le ≤ (zrow law b st n).1.getD j 0) → ((f = 1) ∨ (f = 0 ∧ ∃ j : Nat, k ≤ j ∧ j < M ∧ (zrow law b st n).1.getD j 0 = le)) → zgo w (d + 7) 177 328 [zR 32, zI (r : Int), zI (M : Int), zJ, zJ, zJ, zJ, zJ, zI le, zI f, zI (k : Int)] [] H (zQI K)
  | 0, k, H, f, hk, hc, h1, h2 => by
    have hf : f = 1 := by
      rcases h2 with h2 | ⟨_, j, a, b', _⟩
      · exact h2
      · omega
    subst hf
    exact x177_328 ⟨fun _ => ⟨Or.inr rfl, K1 H hc⟩, fun q => by omega⟩
  | c + 1, k, H, f, hk, hc, h1, h2 => by
    have hk1 := h1 k (Nat.le_refl k) (by omega)
    have ew : w32 ((k : Int) + 1) = ((k + 1 : Nat) : Int) := zqi1 (by omega)
    refine x177_328 ⟨fun q => by omega, fun _ => ?_⟩
    rw [ew]
    clear ew
    refine y107k hBs hB hc (by omega) fun H1 c1 => ⟨fun _ => ⟨fun q => ?_, fun q => ?_⟩, fun q => by omega⟩
    · exact y177r hBs hB hM hM2 K1 hle c (k + 1) H1 1 (by omega) c1 (fun j a b' => h1 j (by omega) b') (Or.inl rfl)
    · refine y107k hBs hB c1 (by omega) fun H2 c2 => ⟨fun z => ?_, fun z => ?_⟩
      · refine y177r hBs hB hM hM2 K1 hle c (k + 1) H2 0 (by omega) c2 (fun j a b' => h1 j (by omega) b') (Or.inr ⟨rfl, ?_⟩)
        rcases h2 with h2 | ⟨_, j, a, b', e⟩
        · omega
        · refine ⟨j, ?_, b', e⟩
          rcases Nat.lt_or_ge k j with y | y
          · omega
          · have : k = j := by omega
            subst this
            exact absurd e z
      · exact y177r hBs hB hM hM2 K1 hle c (k + 1) H2 1 (by omega) c2 (fun j a b' => h1 j (by omega) b') (Or.inl rfl)
/-- how it ends -/
theorem y177e {K : Int → zHt → Prop} {M : Nat} (hBs : zBs H0) (hB : H0 40 4 = law ∧ H0 40 2 = b ∧ H0 40 3 = st ∧ (r : Int) < H0 40 1 ∧ H0 41 r = n) (hl : law < 4) (hst : 1 ≤ st ∧ st ≤ 100) (hF : zRwF law b st n (zrow law b st n)) (hM : (zrow law b st n).1.length = M) (hc : zcf H0 H) (K1 : ∀ H', zcf H0 H' → K 1 H') : zgo w (d + 29) 177 119 [zR 32, zI (r : Int), zI (M : Int), zI (M : Int), zJ, zJ, zJ, zJ, zJ, zJ, zJ] [] H (zQI K) := by
  obtain ⟨⟨g1, g2, g3, g4⟩, g5, g6⟩ := hF
  have hM2 : M ≤ 101 := by omega
  have hM1 : 1 ≤ M := by omega
  have ew : w32 ((M : Int) - 1) = ((M - 1 : Nat) : Int) := by rw [w32_id (by omega)]; omega
  refine x177_119 ⟨fun _ => ?_, fun q => by omega⟩
  rw [ew]
  clear ew
  refine y107k hBs hB hc (by omega) fun H1 c1 => y111 hBs hB c1 fun H2 c2 => ?_
  rw [hM] at g6
  generalize hla : (zrow law b st n).1.getD (M - 1) 0 = la at g6 ⊢
  generalize hen : (zrow law b st n).2.1 = en at g6 ⊢
  have rn : ∀ t, en ≠ 1 → zfrnd t (zrow law b st n) = (5, -1) := fun t z => by unfold zfrnd; rw [hen, if_neg z]
  have ry : ∀ t, en = 1 → zfrnd t (zrow law b st n) = (0, if t = 0 then (zrow law b st n).2.2 else if t = 1 then ((zrow law b st n).1.length : Int) - (zrow law b st n).2.2 else zlor (zrow law b st n)) := fun t z => by unfold zfrnd; rw [hen, if_pos z]
  refine ⟨fun q => ⟨fun q2 => ?_, fun q2 => ?_⟩, fun q => ⟨fun q2 => ?_, fun q2 => ?_⟩⟩
  · have hp : 1 ≤ la ∧ la ≤ 4095 := by rcases g6 with g6 | g6; exact absurd g6.1 q; exact g6.1
    have g7 : (en = 2 ∧ b < zsum law la.toNat) ∨ (en = 1 ∧ 0 ≤ (zrow law b st n).2.2 ∧ (zrow law b st n).2.2 < (zrow law b st n).1.length ∧ (zrow law b st n).1.getD (zrow law b st n).2.2.toNat 0 = zsum law la.toNat) := by
      rcases g6 with g6 | ⟨_, g6 | g6 | g6⟩
      · exact absurd g6.1 q
      · exact absurd g6.1 q2
      · exact Or.inl g6
      · exact Or.inr (by rw [hM]; exact g6)
    refine y41 c2 fun H3 c3 => ?_
    rw [if_neg (by decide), if_neg (by decide), if_neg (by decide), if_pos rfl, hB.1]
    refine y174 hl hp ⟨fun q3 => ?_, fun q3 => ?_⟩
    · have g8 := g7.resolve_left (fun z => q3 z.1)
      obtain ⟨e1, e2, e3, e4⟩ := g8
      obtain ⟨at', hat⟩ : ∃ a : Nat, (zrow law b st n).2.2 = a := ⟨(zrow law b st n).2.2.toNat, by omega⟩
      have hzl := zlor_F (r := zrow law b st n) ⟨e2, e3⟩
      rw [hat, Int.toNat_natCast] at e4 hzl
      refine y112 hBs hB c3 (by decide) fun H4 c4 _ => ⟨fun z => absurd e1 z, fun _ => ?_⟩
      rw [ry 0 e1]
      show zclI w _ 107 [zR 32, zI (r : Int), zI (zrow law b st n).2.2] H4 _
      rw [hat]
      refine y107k hBs hB c4 (by omega) fun H5 c5 => ⟨fun z => absurd e4 z, fun _ => ?_⟩
      refine y112 hBs hB c5 (by decide) fun H6 c6 _ => ?_
      rw [ry 1 e1]
      refine ⟨fun _ => ?_, fun z => absurd ?_ z⟩
      · refine y112 hBs hB c6 (by decide) fun H7 c7 _ => ?_
        rw [ry 2 e1]
        exact y177r (le := zlor (zrow law b st n)) hBs hB hM hM2 K1 (fun _ _ => trivial) (M - at') at' H7 0 (by omega) c7 (fun j a b' => hzl.1 j a (by omega)) (Or.inr ⟨rfl, by rw [hM] at hzl; exact hzl.2⟩)
      · show (if (1 : Int) = 0 then (zrow law b st n).2.2 else if (1 : Int) = 1 then ((zrow law b st n).1.length : Int) - (zrow law b st n).2.2 else zlor (zrow law b st n)) = w32 ((M : Int) - (at' : Int))
        rw [if_neg (by decide), if_pos rfl, hat, hM, w32_id (by omega)]
    · have g8 : b < zsum law la.toNat := by
        rcases g7 with g7 | g7
        · exact g7.2
        · omega
      refine y41 c3 fun H4 c4 => ?_
      rw [if_neg (by decide), if_pos rfl, hB.2.1]
      exact ⟨fun z => by omega, fun _ => K1 H4 c4⟩
  · have g8 : (M : Int) = st + 1 := by
      rcases g6 with g6 | ⟨_, g6 | g6 | g6⟩
      · exact absurd g6.1 q
      · exact g6.2
      · omega
      · omega
    refine y41 c2 fun H3 c3 => ?_
    rw [if_neg (by decide), if_neg (by decide), if_pos rfl, hB.2.2.1, w32_id (by omega)]
    exact ⟨fun z => absurd g8 z, fun _ => K1 H3 c3⟩
  · rcases g6 with g6 | g6
    · exact absurd g6.2 q2
    · omega
  · refine y112 hBs hB c2 (by decide) fun H3 c3 s3 => ?_
    rw [rn 0 (by omega)] at s3 ⊢
    refine ⟨fun z => absurd rfl z, fun _ => ?_⟩
    rw [c9, s3]
    exact ⟨fun z => absurd rfl z, fun _ => K1 H3 c3⟩
/-- no value twice -/
theorem y177i {K : Int → zHt → Prop} {M k : Nat} (hBs : zBs H0) (hB : H0 40 4 = law ∧ H0 40 2 = b ∧ H0 40 3 = st ∧ (r : Int) < H0 40 1 ∧ H0 41 r = n) (hF : zRwG law b n (zrow law b st n).1) (hM : (zrow law b st n).1.length = M) (hM2 : M ≤ 101) (hk : k < M) (nx : ∀ H', zcf H0 H' → zgo w (d + 29) 177 119 [zR 32, zI (r : Int), zI (M : Int), zI ((k + 1 : Nat) : Int), zJ, zJ, zJ, zJ, zJ, zJ, zJ] [] H' (zQI K)) : ∀ (c i : Nat) (H : zHt), i + c = k → zcf H0 H → zgo w (d + 29) 177 127 [zR 32, zI (r : Int), zI (M : Int), zI (k : Int), zI (i : Int), zJ, zJ, zJ, zJ, zJ, zJ] [] H (zQI K)
  | 0, i, H, hi, hc => by
    refine x177_127 ⟨fun _ => ?_, fun q => by omega⟩
    rw [zqi1 (by omega)]
    exact nx H hc
  | c + 1, i, H, hi, hc => by
    refine x177_127 ⟨fun q => by omega, fun _ => y107k hBs hB hc (by omega) fun H1 c1 => y107k hBs hB c1 (by omega) fun H2 c2 => ⟨fun _ => ?_, fun q => ?_⟩⟩
    · rw [zqi1 (by omega)]
      exact y177i hBs hB hF hM hM2 hk nx c (i + 1) H2 (by omega) c2
    · exact absurd q (hF.2.2.2 i k (by omega) (by omega))
theorem y177k {K : Int → zHt → Prop} {M : Nat} (hBs : zBs H0) (hB : H0 40 4 = law ∧ H0 40 2 = b ∧ H0 40 3 = st ∧ (r : Int) < H0 40 1 ∧ H0 41 r = n) (hl : law < 4) (hst : 1 ≤ st ∧ st ≤ 100) (hF : zRwF law b st n (zrow law b st n)) (hM : (zrow law b st n).1.length = M) (hM2 : M ≤ 101) (K1 : ∀ H', zcf H0 H' → K 1 H') : ∀ (c k : Nat) (H : zHt), k + c = M → zcf H0 H → zgo w (d + 29) 177 119 [zR 32, zI (r : Int), zI (M : Int), zI (k : Int), zJ, zJ, zJ, zJ, zJ, zJ, zJ] [] H (zQI K)
  | 0, k, H, hk, hc => by
    have : k = M := by omega
    subst this
    exact y177e hBs hB hl hst hF hM hc K1
  | c + 1, k, H, hk, hc => by
    refine x177_119 ⟨fun q => by omega, fun _ => ?_⟩
    exact y177i hBs hB hF.1 hM hM2 (by omega) (fun H' c' => y177k hBs hB hl hst hF hM hM2 K1 c (k + 1) H' (by omega) c') k 0 H (by omega) hc
/-- each the sum of the one before -/
theorem y177c {K : Int → zHt → Prop} {M : Nat} (hBs : zBs H0) (hB : H0 40 4 = law ∧ H0 40 2 = b ∧ H0 40 3 = st ∧ (r : Int) < H0 40 1 ∧ H0 41 r = n) (hl : law < 4) (hst : 1 ≤ st ∧ st ≤ 100) (hF : zRwF law b st n (zrow law b st n)) (hM : (zrow law b st n).1.length = M) (hM2 : M ≤ 101) (K1 : ∀ H', zcf H0 H' → K 1 H') : ∀ (c k : Nat) (H : zHt), k + 1 + c = M → zcf H0 H → zgo w (d + 29) 177 59 [zR 32, zI (r : Int), zI (M : Int), zI (k : Int), zJ, zJ, zJ, zJ, zJ, zJ, zJ] [] H (zQI K)
  | 0, k, H, hk, hc => by
    refine x177_59 ⟨fun _ => y177k hBs hB hl hst hF hM hM2 K1 M 0 H (by omega) hc, fun q => ?_⟩
    rw [zqi1 (by omega)] at q
    omega
  | c + 1, k, H, hk, hc => by
    obtain ⟨s1, s2, s3, s4⟩ := hF.1.2.2.1 k (by omega)
    refine x177_59 ⟨fun q => ?_, fun _ => ?_⟩
    · rw [zqi1 (by omega)] at q
      omega
    rw [zqi1 (by omega)]
    refine y107k hBs hB hc (by omega) fun H1 c1 => y107k hBs hB c1 (by omega) fun H2 c2 => y41 c2 fun H3 c3 => ?_
    rw [if_neg (by decide), if_neg (by decide), if_neg (by decide), if_pos rfl, hB.1]
    refine y174 hl ⟨s3, s4⟩ ⟨fun q => absurd s1 q, fun _ => ?_⟩
    refine y107k hBs hB c3 (by omega) fun H4 c4 => y41 c4 fun H5 c5 => ?_
    rw [if_neg (by decide), if_pos rfl, hB.2.1]
    exact ⟨fun _ => y177c hBs hB hl hst hF hM hM2 K1 c (k + 1) H5 (by omega) c5, fun q => by omega⟩
theorem y177 {K : Int → zHt → Prop} (hBs : zBs H0) (hB : H0 40 4 = law ∧ H0 40 2 = b ∧ H0 40 3 = st ∧ (r : Int) < H0 40 1 ∧ H0 41 r = n) (hl : law < 4) (hst : 1 ≤ st ∧ st ≤ 100) (hb : 0 ≤ b ∧ b ≤ 4095) (hn : 1 ≤ n ∧ n ≤ 4095) (hc : zcf H0 H) (K1 : ∀ H', zcf H0 H' → K 1 H') : zclI w (d + 29) 177 [zR 32, zI (r : Int)] H K := by
  have hF := zrow_F (law := law) (bound := b) (steps := st) (n := n) (by omega) hb (by omega) hn
  obtain ⟨M, hM⟩ : ∃ M, (zrow law b st n).1.length = M := ⟨_, rfl⟩
  have hM1 : 1 ≤ M := by have := hF.1.1; omega
  have hM3 : (M : Int) ≤ st + 1 := by have := hF.2.1; omega
  refine x177_0 ?_
  refine y107 hBs hB hc (by decide) fun H1 c1 _ => ?_
  have e1 : (zfval (-1) (zrow law b st n)).2 = (M : Int) := by unfold zfval; rw [if_pos rfl, hM]
  rw [e1]
  refine ⟨fun q => by omega, fun _ => ?_⟩
  refine y107k (k := 0) hBs hB c1 (by omega) fun H2 c2 => ?_
  obtain ⟨H3, k1, k2, k3, k4⟩ := a105 (w := w) (d := d + 27) (v := r) (H := H2) (hBs.cf c2).1
  rw [k4, zcf40 c2, zcf41 c2, if_pos ⟨by omega, hB.2.2.2.1⟩, hB.2.2.2.2]
  have c3 := zcf_k c2 k1 k2
  refine ⟨fun q => absurd hF.1.2.1 q, fun _ => ?_⟩
  refine y107 hBs hB c3 (by omega) fun H4 c4 s4 => ?_
  have e2 : zfval (M : Int) (zrow law b st n) = (5, -1) := by unfold zfval; rw [if_neg (by omega), if_neg (by omega)]
  rw [e2] at s4 ⊢
  refine ⟨fun z => absurd rfl z, fun _ => ?_⟩
  rw [c9, s4]
  refine ⟨fun z => absurd rfl z, fun _ => ?_⟩
  refine y41 c4 fun H5 c5 => ?_
  rw [if_neg (by decide), if_neg (by decide), if_pos rfl, hB.2.2.1, w32_id (by omega)]
  exact ⟨fun _ => y177c hBs hB hl hst hF hM (by omega) K1 (M - 1) 0 H5 (by omega) c5, fun q => by omega⟩
end ZY
