/-! the case families, the model and the law -/
section Z71
variable {w : zWt} {d : Nat} {H : zHt}
def zLb (H : zHt) (m : Nat) (L : Nat → Nat) : Prop := ∀ i : Nat, 1 ≤ i → i ≤ m → H 92 (i : Int) = ((L i : Nat) : Int)
theorem c211 {m x y : Nat} {L : Nat → Nat} (hm : m ≤ 500) (hL : zLok m L) (hb : zLb H m L) (hx : 1 ≤ x ∧ x ≤ m) (hy : 1 ≤ y ∧ y ≤ m) : ∃ H', ((∀ a j : Int, a ≠ 92 → H' a j = H a j) ∧ zLb H' m (zun L (L x) (L y))) ∧ ∀ K : zHt → Prop, zclV w d 211 [zR 81, zI x, zI y, zI m] H K = K H' := by
  have a := hL x hx.1 hx.2
  have b := hL y hy.1 hy.2
  have lp : ∀ (c k : Nat) (H1 : zHt), k + c = m + 1 → 1 ≤ k → (∀ a j : Int, a ≠ 92 → H1 a j = H a j) → (∀ i : Nat, 1 ≤ i → i ≤ m → H1 92 (i : Int) = ((if i < k then zun L (L x) (L y) i else L i : Nat) : Int)) → zgo w d 211 53 [zR 81, zJ, zJ, zI m, zI ((min (L x) (L y) : Nat) : Int), zI ((max (L x) (L y) : Nat) : Int), zI k] [] H1 (zQV fun H' => (∀ a j : Int, a ≠ 92 → H' a j = H a j) ∧ zLb H' m (zun L (L x) (L y))) := by
    intro c
    induction c with
    | zero => exact fun k H1 hk k1 f h => x211_53 ⟨fun _ => ⟨f, fun i i1 i2 => by rw [h i i1 i2, if_pos (by omega)]⟩, fun q => by omega⟩
    | succ c ih =>
      intro k H1 hk k1 f h
      have hk92 := h k k1 (by omega)
      rw [if_neg (by omega)] at hk92
      refine x211_53 ⟨fun q => by omega, fun _ => ⟨by omega, fun q => ?_, fun q => ?_⟩⟩
      · rw [hk92] at q ⊢
        rw [zi1 (by omega)]
        refine ih (k + 1) _ (by omega) (by omega) (fun a j z => by rw [zq_ne (fun y => z y.1)]; exact f a j z) (fun i i1 i2 => ?_)
        by_cases z : i = k
        · subst z
          rw [zq_eq, if_pos (by omega)]
          unfold zun
          rw [if_neg (by omega)]
        · rw [zq_ne (by omega), h i i1 i2]
          by_cases y : i < k
          · rw [if_pos y, if_pos (by omega)]
          · rw [if_neg y, if_neg (by omega)]
      · rw [hk92] at q
        rw [zi1 (by omega)]
        refine ih (k + 1) _ (by omega) (by omega) (fun a j z => by rw [zq_ne (fun y => z y.1)]; exact f a j z) (fun i i1 i2 => ?_)
        by_cases z : i = k
        · subst z
          rw [zq_eq, if_pos (by omega)]
          unfold zun
          rw [if_pos (by omega)]
        · rw [zq_ne (by omega), h i i1 i2]
          by_cases y : i < k
          · rw [if_pos y, if_pos (by omega)]
          · rw [if_neg y, if_neg (by omega)]
  have go := lp m 1 H (by omega) (Nat.le_refl _) (fun _ _ _ => rfl) (fun i i1 i2 => by rw [if_neg (by omega)]; exact hb i i1 i2)
  refine zclV_ex (x211_0 ⟨by omega, by omega, ?_⟩)
  rw [hb x hx.1 hx.2, hb y hy.1 hy.2, w32_id (x := ((L x : Nat) : Int) + ((L y : Nat) : Int)) (by omega)]
  refine ⟨fun q => ?_, fun q => ?_⟩
  · rw [show w32 (((L x : Nat) : Int) + ((L y : Nat) : Int) - ((L y : Nat) : Int)) = ((max (L x) (L y) : Nat) : Int) by rw [w32_id (by omega)]; omega, show ((L y : Nat) : Int) = ((min (L x) (L y) : Nat) : Int) by omega]
    exact go
  · rw [show w32 (((L x : Nat) : Int) + ((L y : Nat) : Int) - ((L x : Nat) : Int)) = ((max (L x) (L y) : Nat) : Int) by rw [w32_id (by omega)]; omega, show ((L x : Nat) : Int) = ((min (L x) (L y) : Nat) : Int) by omega]
    exact go
theorem c212 {m j : Nat} {L : Nat → Nat} {K : Int → zHt → Prop} (hm : m ≤ 500) (hb : zLb H m L) : zclI w d 212 [zR 81, zI j, zI m] H K = K ((zsz L m j : Nat) : Int) H := by
  have lp : ∀ (c k s : Nat) (K : Int → zHt → Prop), k + c = m + 1 → 1 ≤ k → s + c ≤ 600 → K ((s + zcn (fun i => decide (L i = j)) c k : Nat) : Int) H → zgo w d 212 5 [zR 81, zI j, zI m, zI s, zI k] [] H (zQI K) := by
    intro c
    induction c with
    | zero => exact fun k s K h1 k1 h2 h => x212_5 ⟨fun _ => h, fun q => by omega⟩
    | succ c ih =>
      intro k s K h1 k1 h2 h
      refine x212_5 ⟨fun q => by omega, fun _ => ⟨by omega, fun q => ?_, fun q => ?_⟩⟩
      · rw [hb k k1 (by omega)] at q
        rw [zcn_f (decide_eq_false (by omega))] at h
        rw [w32_id (x := (s : Int) + 0) (by omega), zi1 (by omega), Int.add_zero]
        exact ih (k + 1) s K (by omega) (by omega) (by omega) h
      · rw [hb k k1 (by omega)] at q
        rw [zcn_t (decide_eq_true (by omega))] at h
        rw [zi1 (m := s) (by omega), zi1 (by omega)]
        exact ih (k + 1) (s + 1) K (by omega) (by omega) (by omega) (by rw [show s + 1 + zcn (fun i => decide (L i = j)) c (k + 1) = s + (zcn (fun i => decide (L i = j)) c (k + 1) + 1) by omega]; exact h)
  exact zclI_eq fun K h => x212_0 (lp m 1 0 K (by omega) (Nat.le_refl _) (by omega) (by rw [Nat.zero_add]; exact h))
theorem c210m {H0 : zHt} {m : Nat} {L : Nat → Nat} {t x : Int} (hm : m ≤ 500) (ht : 0 ≤ t ∧ t ≤ 3) (hL : zLok m L) (hb : zLb H m L) (f : zmf H0 H) (h0 : H 81 0 = 0) : ∀ (c k u al b : Nat), k + c = m + 1 → 1 ≤ k → u ≤ k → al ≤ k → b ≤ 500 → x = zfpk4 (zsz L m) t (zfam (zsz L m) c k u al b) → zgo w (d + 1) 210 118 [zR 81, zI m, zI t, zI u, zI al, zI ((zsz L m b : Nat) : Int), zI b, zI k, zJ] [] H (zQI (zPM H0 (0, x)))
  | 0, k, u, al, b, hk, h1, hu, ha, hbb, e => by
    have e : x = zfpk4 (zsz L m) t (u, al, b) := e
    unfold zfpk4 at e
    refine x210_118 ⟨fun _ => ⟨fun q => ⟨fun q2 => ⟨fun q3 => ?_, fun q3 => ?_⟩, fun q2 => ?_⟩, fun q => ?_⟩, fun q => by omega⟩
    · rw [if_neg q, if_neg q2, if_neg q3] at e; exact zPM_0 f h0 (by rw [e])
    · rw [if_neg q, if_neg q2, if_pos q3] at e; exact zPM_0 f h0 (by rw [e])
    · rw [if_neg q, if_pos q2] at e; exact zPM_0 f h0 (by rw [e])
    · rw [if_pos q] at e; exact zPM_0 f h0 (by rw [e])
  | c + 1, k, u, al, b, hk, h1, hu, ha, hbb, e => by
    have e : x = zfpk4 (zsz L m) t (zfam (zsz L m) c (k + 1) (if zsz L m k = 0 then u else u + 1) (if zsz L m k = 1 then al + 1 else al) (if zsz L m b < zsz L m k then k else b)) := e
    have hLk := hL k h1 (by omega)
    refine x210_118 ⟨fun q => by omega, fun _ => ⟨by omega, fun q => ?_, fun q => ?_⟩⟩
    · rw [hb k h1 (by omega)] at q
      have s1 := zsz_1 (L := L) (j := k) (by omega) h1 (m := m) (by omega)
      have sl := zsz_le (L := L) (m := m) (j := k)
      rw [if_neg (show ¬ zsz L m k = 0 by omega)] at e
      rw [c212 hm hb, zi1 (m := u) (by omega), zi1 (m := k) (by omega)]
      refine ⟨fun q2 => ⟨fun q3 => ?_, fun q3 => ?_⟩, fun q2 => ⟨fun q3 => ?_, fun q3 => ?_⟩⟩
      · rw [if_neg (show ¬ zsz L m k = 1 by omega), if_pos (show zsz L m b < zsz L m k by omega)] at e
        rw [w32_id (x := (al : Int) + 0) (by omega), Int.add_zero]
        exact c210m hm ht hL hb f h0 c (k + 1) (u + 1) al k (by omega) (by omega) (by omega) (by omega) (by omega) e
      · rw [if_neg (show ¬ zsz L m k = 1 by omega), if_neg (show ¬ zsz L m b < zsz L m k by omega)] at e
        rw [w32_id (x := (al : Int) + 0) (by omega), Int.add_zero]
        exact c210m hm ht hL hb f h0 c (k + 1) (u + 1) al b (by omega) (by omega) (by omega) (by omega) hbb e
      · rw [if_pos (show zsz L m k = 1 by omega), if_pos (show zsz L m b < zsz L m k by omega)] at e
        rw [zi1 (m := al) (by omega)]
        exact c210m hm ht hL hb f h0 c (k + 1) (u + 1) (al + 1) k (by omega) (by omega) (by omega) (by omega) (by omega) e
      · rw [if_pos (show zsz L m k = 1 by omega), if_neg (show ¬ zsz L m b < zsz L m k by omega)] at e
        rw [zi1 (m := al) (by omega)]
        exact c210m hm ht hL hb f h0 c (k + 1) (u + 1) (al + 1) b (by omega) (by omega) (by omega) (by omega) hbb e
    · rw [hb k h1 (by omega)] at q
      have s0 := zsz_0 (L := L) (j := k) (by omega) (m := m) (fun i i1 i2 => (hL i i1 i2).2.2)
      rw [s0, if_pos rfl, if_neg (by decide), if_neg (by omega)] at e
      rw [zi1 (m := k) (by omega)]
      exact c210m hm ht hL hb f h0 c (k + 1) u al b (by omega) (by omega) (by omega) (by omega) hbb e
theorem c210u {H0 : zHt} {m : Nat} {law t : Int} (hm : 1 ≤ m ∧ m ≤ 500) (ht : 0 ≤ t ∧ t ≤ 3) : ∀ (c k : Nat) (H : zHt), k + c = m → zmf H0 H → H 81 0 = 0 → zTab H law m → zLb H m (zlb law m k) → zgo w (d + 1) 210 65 [zR 81, zI m, zI t, zI ((k + 1 : Nat) : Int), zJ, zJ, zJ, zJ, zJ] [] H (zQI (zPM H0 (0, zfpk4 (zsz (zlb law m m) m) t (zfam (zsz (zlb law m m) m) m 1 0 0 1))))
  | 0, k, H, hk, f, h0, hT, hb => by
    have e : k = m := by omega
    subst e
    have hL := zlb_ok (law := law) (m := k) (k := k) (Nat.le_refl _)
    have h1 := hL 1 (Nat.le_refl _) hm.1
    have hL1 : zlb law k k 1 = 1 := by omega
    have s1 := zsz_1 (L := zlb law k k) hL1 (Nat.le_refl 1) (m := k) hm.1
    have sl := zsz_le (L := zlb law k k) (m := k) (j := 1)
    obtain ⟨c, hc⟩ : ∃ c, k = c + 1 := ⟨k - 1, by omega⟩
    refine x210_65 ⟨fun _ => ?_, fun q => by omega⟩
    have e2 : zfam (zsz (zlb law k k) k) k 1 0 0 1 = zfam (zsz (zlb law k k) k) c 2 1 (if zsz (zlb law k k) k 1 = 1 then 1 else 0) 1 := by
      have : ∀ n, n = c + 1 → zfam (zsz (zlb law k k) k) n 1 0 0 1 = zfam (zsz (zlb law k k) k) c 2 1 (if zsz (zlb law k k) k 1 = 1 then 1 else 0) 1 := fun n hn => by
        subst hn
        show zfam (zsz (zlb law k k) k) c 2 (if zsz (zlb law k k) k 1 = 0 then 0 else 1) (if zsz (zlb law k k) k 1 = 1 then 1 else 0) (if zsz (zlb law k k) k 1 < zsz (zlb law k k) k 1 then 1 else 1) = _
        rw [if_neg (by omega), if_neg (Nat.lt_irrefl _)]
      exact this k hc
    rw [e2]
    refine x210_118 ⟨fun q => by omega, fun _ => ⟨by omega, fun q => ?_, fun q => ?_⟩⟩
    · have cc : ∀ K : Int → zHt → Prop, zclI w d 212 [zR 81, zI 1, zI k] H K = K ((zsz (zlb law k k) k 1 : Nat) : Int) H := fun K => c212 (j := 1) hm.2 hb
      rw [cc]
      rw [show w32 (0 + 1) = ((1 : Nat) : Int) from (zi1 (m := 0) (by omega) : w32 (((0 : Nat) : Int) + 1) = _), show w32 (1 + 1) = ((2 : Nat) : Int) from zi1 (m := 1) (by omega), show w32 (0 + 0) = ((0 : Nat) : Int) from w32_id (by omega)]
      refine ⟨fun q2 => ⟨fun q3 => ?_, fun q3 => by omega⟩, fun q2 => ⟨fun q3 => ?_, fun q3 => by omega⟩⟩
      · rw [if_neg (show ¬ zsz (zlb law k k) k 1 = 1 by omega)]
        exact c210m hm.2 ht hL hb f h0 c 2 1 0 1 (by omega) (by omega) (by omega) (by omega) (by omega) rfl
      · rw [if_pos (show zsz (zlb law k k) k 1 = 1 by omega)]
        exact c210m hm.2 ht hL hb f h0 c 2 1 1 1 (by omega) (by omega) (by omega) (by omega) (by omega) rfl
    · have := hb 1 (Nat.le_refl _) hm.1
      rw [hL1] at this
      exact absurd this q
  | c + 1, k, H, hk, f, h0, hT, hb => by
    have hok := zlb_ok (law := law) (m := m) (k := k) (by omega)
    refine x210_65 ⟨fun q => by omega, fun _ => ⟨by omega, ?_⟩⟩
    rw [hT (k + 1) (by omega) (by omega), c173, zi1 (by omega)]
    by_cases z : 1 ≤ zsum law ((k + 1 : Nat)) ∧ zsum law ((k + 1 : Nat)) ≤ m
    · rw [if_pos z]
      refine ⟨fun q => absurd q (by decide), fun _ => ?_⟩
      obtain ⟨y, hy⟩ : ∃ y : Nat, zsum law ((k + 1 : Nat)) = y := ⟨(zsum law ((k + 1 : Nat))).toNat, by omega⟩
      have e2 : zlb law m (k + 1) = zun (zlb law m k) (zlb law m k (k + 1)) (zlb law m k y) := by
        show (if 1 ≤ zsum law ((k + 1 : Nat)) ∧ zsum law ((k + 1 : Nat)) ≤ m then zun (zlb law m k) (zlb law m k (k + 1)) (zlb law m k (zsum law ((k + 1 : Nat))).toNat) else zlb law m k) = _
        rw [if_pos z, hy]; rfl
      rw [hy] at z
      rw [hT (k + 1) (by omega) (by omega), hy]
      obtain ⟨H1, ⟨f1, b1⟩, e1⟩ := c211 (w := w) (d := d) (H := H) (x := k + 1) (y := y) hm.2 hok hb ⟨by omega, by omega⟩ ⟨by omega, by omega⟩
      rw [w32_id (x := (y : Int)) (by omega), e1]
      refine c210u hm ht c (k + 1) H1 (by omega) (zmf_tr f ⟨fun a j q => f1 a j (fun z => by subst z; cases q), f1 32 14 (by decide)⟩) (by rw [f1 81 0 (by decide)]; exact h0) (fun i i1 i2 => by rw [f1 90 i (by decide)]; exact hT i i1 i2) ?_
      rw [e2]; exact b1
    · rw [if_neg z]
      refine ⟨fun _ => ?_, fun q => absurd rfl q⟩
      refine c210u hm ht c (k + 1) H (by omega) f h0 hT ?_
      unfold zlb
      rw [if_neg z]; exact hb
theorem c210i {H0 : zHt} {m : Nat} {law t : Int} (hm : 1 ≤ m ∧ m ≤ 500) (ht : 0 ≤ t ∧ t ≤ 3) : ∀ (c k : Nat) (H : zHt), k + c = m + 1 → 1 ≤ k → zmf H0 H → H 81 0 = 0 → zTab H law m → (∀ i : Nat, 1 ≤ i → i < k → H 92 (i : Int) = (i : Int)) → zgo w (d + 1) 210 45 [zR 81, zI m, zI t, zI k, zJ, zJ, zJ, zJ, zJ] [] H (zQI (zPM H0 (0, zfpk4 (zsz (zlb law m m) m) t (zfam (zsz (zlb law m m) m) m 1 0 0 1))))
  | 0, k, H, hk, k1, f, h0, hT, h => x210_45 ⟨fun _ => c210u hm ht m 0 H (by omega) f h0 hT (fun i i1 i2 => h i i1 (by omega)), fun q => by omega⟩
  | c + 1, k, H, hk, k1, f, h0, hT, h => by
    refine x210_45 ⟨fun q => by omega, fun _ => ⟨by omega, ?_⟩⟩
    rw [zi1 (by omega)]
    refine c210i hm ht c (k + 1) _ (by omega) (by omega) (zmf_up f rfl (by omega)) (by rw [zq_ne (by omega)]; exact h0) (fun i i1 i2 => by rw [zq_ne (by omega)]; exact hT i i1 i2) (fun i i1 i2 => ?_)
    by_cases z : i = k
    · subst z; rw [zq_eq]
    · rw [zq_ne (by omega)]; exact h i i1 (by omega)
noncomputable def zfmA (law m t : Int) : Int × Int := if (1 ≤ m ∧ m ≤ 500) ∧ 0 ≤ t ∧ t ≤ 3 then (0, zfpk4 (zsz (zlb law m.toNat m.toNat) m.toNat) t (zfam (zsz (zlb law m.toNat m.toNat) m.toNat) m.toNat 1 0 0 1)) else (1, -1)
-- families
theorem l810 (hw : w.1 ≤ 3072) (hMR : zMR) : zLaw w (zKept zAllR) 810 := fun H i hi hR K nx => x0_810 (d := 1999) (by
  refine ⟨zidx hw hi (by decide) (by decide), zidx hw hi (by decide) (by decide), ?_⟩
  generalize zH0 w.2 0 (w32 ((i : Int) + 1)) = m
  generalize zH0 w.2 0 (w32 ((i : Int) + 2)) = t
  refine zcaseI (A := fun H => zfmA (H 40 4) m t) (fun H H1 h => by simp only [h 40 4 rfl]) hR (fun hD hW => x86_0 (d := 1998) ?_) (fun H1 hD => x210_0 (d := 1998) ?_) (fun x y H' hk e => nx H' hk)
  · unfold zfmA
    have bad : ¬ ((1 ≤ m ∧ m ≤ 500) ∧ 0 ≤ t ∧ t ≤ 3) → zclI w 1998 13 [zR 32, zI 1] H (zPC H (if (1 ≤ m ∧ m ≤ 500) ∧ 0 ≤ t ∧ t ≤ 3 then (0, zfpk4 (zsz (zlb (H 40 4) m.toNat m.toNat) m.toNat) t (zfam (zsz (zlb (H 40 4) m.toNat m.toNat) m.toNat) m.toNat 1 0 0 1)) else (1, -1))) := fun z => by
      rw [if_neg z]; exact zPC_r zcf_rfl rfl
    refine ⟨fun q => bad (by omega), fun q => ⟨fun q2 => bad (by omega), fun q2 => ?_⟩⟩
    rw [c44]
    by_cases ht : 0 ≤ t ∧ t ≤ 3
    · rw [if_pos ht, if_pos ⟨⟨q, q2⟩, ht⟩]
      refine ⟨fun _ => ?_, fun q => absurd q (by decide)⟩
      obtain ⟨n, rfl⟩ : ∃ n : Nat, m = n := ⟨m.toNat, by omega⟩
      obtain ⟨H1, ⟨f1, F1⟩, e1⟩ := c87 (w := w) (d := 1993) (H := H) (m := n) hMR (by omega) hD.1
      have hL := zlb_ok (law := H 40 4) (m := n) (k := n) (Nat.le_refl _)
      obtain ⟨H2, ⟨f2, F2⟩, e2⟩ := c89 (w := w) (d := 1997) (H := H1) (m := n) (by omega) hL F1
      rw [e1, e2]
      have cf : zcf H H2 := ⟨zRk_of (fun a j q => by
        rw [f2 a j (fun z => by subst z; cases q)]
        exact f1 a j (fun z => by subst z; cases q) (fun z => by subst z; cases q) (fun z => by obtain ⟨rfl, rfl⟩ := z; cases q) (fun z => by subst z; cases q)), by
        rw [f2 81 0 (by decide)]; exact f1 81 0 (by decide) (by decide) (by omega) (by decide)⟩
      exact c86l (d := 1998) (m := n) (by omega) ht F2 (fun j => Nat.le_trans zsz_le (by omega)) cf n 1 0 0 1 (by omega) (Nat.le_refl _) (by omega) (by omega) (by omega) rfl
    · rw [if_neg ht]
      exact ⟨fun q => absurd rfl q, fun _ => bad (fun z => ht z.2)⟩
  · unfold zfmA
    rw [c173]
    by_cases hm : 1 ≤ m ∧ m ≤ 500
    · rw [if_pos hm]
      refine ⟨fun q => absurd q (by decide), fun _ => ?_⟩
      rw [c173]
      by_cases ht : 0 ≤ t ∧ t ≤ 3
      · rw [if_pos ht, if_pos ⟨hm, ht⟩, c174_0]
        refine ⟨fun q => absurd q (by decide), fun _ => ⟨fun _ => ?_, fun q => absurd q (by decide)⟩⟩
        obtain ⟨n, rfl⟩ : ∃ n : Nat, m = n := ⟨m.toNat, by omega⟩
        obtain ⟨H2, ⟨f2, T2⟩, e2⟩ := c205 (w := w) (d := 1994) (H := zst H1 0) (M := n) (by omega)
        have e9 : zst H1 0 82 9 = H1 40 4 := by rw [zst_at (by omega)]; exact hD.2.1
        rw [e9] at T2
        rw [e2]
        exact c210i (d := 1998) ⟨by omega, by omega⟩ ht n 1 H2 (by omega) (Nat.le_refl _) (zmf_fs (zst_f zmf_rfl) f2) (by rw [f2 81 0 (by decide) (by decide) (by decide) (by omega)]; exact zst_0) T2 (fun i i1 i2 => by omega)
      · rw [if_neg ht, if_neg (fun z => ht z.2), c174_1]
        exact ⟨fun _ => ⟨fun q => absurd rfl q, fun _ => zPM_n zmf_rfl rfl⟩, fun q => absurd rfl q⟩
    · rw [if_neg hm, if_neg (fun z => hm z.1), c174_1]
      exact ⟨fun _ => ⟨fun q => absurd rfl q, fun _ => zPM_n zmf_rfl rfl⟩, fun q => absurd rfl q⟩)
end Z71
