/-! the case shapes -/
noncomputable def zshe (n0 i j : Nat) : Bool := decide (zshp (zfac (n0 + j)) = zshp (zfac (n0 + i)))
theorem zcn_cg {P Q : Nat → Bool} : ∀ {c m : Nat}, (∀ j, m ≤ j → j < m + c → P j = Q j) → zcn P c m = zcn Q c m
  | 0, _, _ => rfl
  | c + 1, m, h => by
    show (if P m = true then 1 else 0) + zcn P c (m + 1) = (if Q m = true then 1 else 0) + zcn Q c (m + 1)
    rw [h m (Nat.le_refl _) (by omega), zcn_cg (fun j h1 h2 => h j (by omega) (by omega))]
noncomputable def zshl3 (n0 size : Nat) : Nat → Nat → Nat → Nat → Nat → Nat × Nat × Nat
  | 0, _, u, m, b => (u, m, b)
  | c + 1, k, u, m, b => zshl3 n0 size c (k + 1) (u + if zcn (zshe n0 k) k 0 = 0 then 1 else 0) (if m < zcn (zshe n0 k) size 0 then zcn (zshe n0 k) size 0 else m) (if m < zcn (zshe n0 k) size 0 then n0 + k else b)
def zpk3 (t : Int) (r : Nat × Nat × Nat) : Int := if t = 0 then (r.1 : Int) else if t = 1 then (r.2.1 : Int) else (r.2.2 : Int)
noncomputable def zshA (a b t : Int) : Int × Int := if ((1 ≤ a ∧ a ≤ 999999999) ∧ (1 ≤ b ∧ b ≤ 999999999) ∧ a ≤ b ∧ b - a ≤ 200) ∧ 0 ≤ t ∧ t ≤ 2 then (0, zpk3 t (zshl3 a.toNat (b - a + 1).toNat (b - a + 1).toNat 0 0 0 0)) else (1, -1)
section Z69
variable {w : zWt} {d : Nat} {H : zHt}
theorem c147m {H0 : zHt} {n0 size : Nat} {t x : Int} (hs : size ≤ 201) (hn : n0 + size ≤ 1000000000) (f : zcf H0 H) (hT : ∀ i j : Nat, i < size → j < size → decide (H 51 (j : Int) = H 51 (i : Int)) = zshe n0 i j) : ∀ (c k u m b : Nat), k + c = size → u ≤ k → m ≤ size → b ≤ 999999999 → x = zpk3 t (zshl3 n0 size c k u m b) → zgo w (d + 1) 147 88 [zR 32, zI n0, zJ, zI t, zI size, zI u, zI m, zI b, zI k, zJ] [] H (zQI (zPC H0 (0, x)))
  | 0, k, u, m, b, hk, hu, hm, hb, e => by
    have e : x = zpk3 t (u, m, b) := e
    unfold zpk3 at e
    refine x147_88 ⟨fun _ => ⟨fun q => ⟨fun q2 => ?_, fun q2 => ?_⟩, fun q => ?_⟩, fun q => by omega⟩
    · rw [if_neg q, if_neg q2] at e
      exact zPC_d f (by rw [e])
    · rw [if_neg q, if_pos q2] at e
      exact zPC_d f (by rw [e])
    · rw [if_pos q] at e
      exact zPC_d f (by rw [e])
  | c + 1, k, u, m, b, hk, hu, hm, hb, e => by
    have e : x = zpk3 t (zshl3 n0 size c (k + 1) (u + if zcn (zshe n0 k) k 0 = 0 then 1 else 0) (if m < zcn (zshe n0 k) size 0 then zcn (zshe n0 k) size 0 else m) (if m < zcn (zshe n0 k) size 0 then n0 + k else b)) := e
    have c1 : zcn (fun j => decide (H 51 (j : Int) = H 51 (k : Int))) k 0 = zcn (zshe n0 k) k 0 := zcn_cg (fun j _ hj => hT k j (by omega) (by omega))
    have c2 : zcn (fun j => decide (H 51 (j : Int) = H 51 (k : Int))) size 0 = zcn (zshe n0 k) size 0 := zcn_cg (fun j _ hj => hT k j (by omega) (by omega))
    have l2 : zcn (zshe n0 k) size 0 ≤ size := zcn_le
    refine x147_88 ⟨fun q => by omega, fun _ => ?_⟩
    rw [c129 (by omega) (by omega), c1]
    refine ⟨fun q => ?_, fun q => ?_⟩
    · rw [c129 (by omega) (by omega), c2, if_neg (by omega)] at *
      rw [zi1 (by omega), w32_id (x := (u : Int) + 0) (by omega), w32_id (x := (n0 : Int) + (k : Int)) (by omega)]
      refine ⟨fun q2 => ?_, fun q2 => ?_⟩
      · rw [if_neg (by omega), if_neg (by omega)] at e
        exact c147m hs hn f hT c (k + 1) u m b (by omega) (by omega) hm hb e
      · rw [if_pos (by omega), if_pos (by omega)] at e
        exact c147m hs hn f hT c (k + 1) u _ (n0 + k) (by omega) (by omega) l2 (by omega) e
    · rw [c129 (by omega) (by omega), c2, if_pos (by omega)] at *
      rw [zi1 (by omega), zi1 (by omega), w32_id (x := (n0 : Int) + (k : Int)) (by omega)]
      refine ⟨fun q2 => ?_, fun q2 => ?_⟩
      · rw [if_neg (by omega), if_neg (by omega)] at e
        exact c147m hs hn f hT c (k + 1) (u + 1) m b (by omega) (by omega) hm hb e
      · rw [if_pos (by omega), if_pos (by omega)] at e
        exact c147m hs hn f hT c (k + 1) (u + 1) _ (n0 + k) (by omega) (by omega) l2 (by omega) e
theorem c147f {H0 : zHt} {n0 size : Nat} {t : Int} (hMR : zMR) (h1 : 1 ≤ n0) (hs : size ≤ 201) (hn : n0 + size ≤ 1000000000) : ∀ (c k : Nat) (H : zHt), k + c = size → zcf H0 H → (∀ j : Nat, j < k → H 51 (j : Int) = ((zPw zten (zshp (zfac (n0 + j))) : Nat) : Int)) → zgo w (d + 4) 147 35 [zR 32, zI n0, zJ, zI t, zI size, zI k, zJ, zJ, zJ, zJ] [] H (zQI (zPC H0 (0, zpk3 t (zshl3 n0 size size 0 0 0 0))))
  | 0, k, H, hk, f, h => by
    refine x147_35 ⟨fun _ => ?_, fun q => by omega⟩
    refine c147m hs hn f (fun i j hi hj => ?_) size 0 0 0 0 (by omega) (Nat.le_refl _) (Nat.zero_le _) (by omega) rfl
    rw [h i (by omega), h j (by omega)]
    unfold zshe
    exact decide_eq_decide.mpr (zshp_eq (by omega) (by omega) (zfac_good w (by omega) (by omega)) (zfac_good w (by omega) (by omega))).1
  | c + 1, k, H, hk, f, h => by
    refine x147_35 ⟨fun q => by omega, fun _ => ⟨fun q => by omega, fun _ => ?_⟩⟩
    obtain ⟨H1, f1, e1⟩ := c148 (w := w) (d := d) (H := H) (n := n0 + k) hMR (by omega) (by omega)
    rw [show w32 ((n0 : Int) + (k : Int)) = ((n0 + k : Nat) : Int) by rw [w32_id (by omega)]; omega, e1]
    refine ⟨by omega, ?_⟩
    rw [zi1 (by omega)]
    refine c147f hMR h1 hs hn c (k + 1) _ (by omega) (zcf_up (zcf_tr f (zcf_148 f1)) rfl (by omega)) (fun j hj => ?_)
    by_cases z : j = k
    · subst z; rw [zq_eq]
    · rw [zq_ne (by omega), f1 51 j (by decide) (by decide) (by decide) (by omega)]; exact h j (by omega)
-- the model
theorem c257i {n0 size k u m b : Nat} {t : Int} {P : Int → zHt → Prop} (hs : size ≤ 201) (hk : k < size) (hn : n0 + size ≤ 1000000000) (hu : u ≤ k) (hT : ∀ j : Nat, j < size → (H 97 (j : Int) = H 97 (k : Int) ↔ zshe n0 k j = true)) (h : zgo w (d + 1) 257 87 [zR 81, zI n0, zJ, zI t, zI size, zI ((u + if zcn (zshe n0 k) k 0 = 0 then 1 else 0 : Nat) : Int), zI ((if m < zcn (zshe n0 k) size 0 then zcn (zshe n0 k) size 0 else m : Nat) : Int), zI ((if m < zcn (zshe n0 k) size 0 then n0 + k else b : Nat) : Int), zI ((k + 1 : Nat) : Int), zJ, zJ, zJ] [] H (zQI P)) : ∀ (c j x y : Nat), j + c = size → x ≤ j → y ≤ j → x + zcn (zshe n0 k) (k - j) j = zcn (zshe n0 k) k 0 → y + zcn (zshe n0 k) c j = zcn (zshe n0 k) size 0 → zgo w (d + 1) 257 103 [zR 81, zI n0, zJ, zI t, zI size, zI u, zI m, zI b, zI k, zI x, zI y, zI j] [] H (zQI P)
  | 0, j, x, y, hj, hx, hy, e1, e2 => by
    rw [show k - j = 0 by omega] at e1
    have e1 : x = zcn (zshe n0 k) k 0 := e1
    have e2 : y = zcn (zshe n0 k) size 0 := e2
    rw [← e1, ← e2] at h
    refine x257_103 ⟨fun _ => ⟨fun q => ⟨fun q2 => ?_, fun q2 => ?_⟩, fun q => ⟨fun q2 => ?_, fun q2 => ?_⟩⟩, fun q => by omega⟩
    · rw [if_neg (show ¬ x = 0 by omega), if_pos (show m < y by omega), if_pos (show m < y by omega)] at h
      rw [zi1 (by omega), w32_id (x := (u : Int) + 0) (by omega), w32_id (x := (n0 : Int) + (k : Int)) (by omega)]
      exact h
    · rw [if_neg (show ¬ x = 0 by omega), if_neg (show ¬ m < y by omega), if_neg (show ¬ m < y by omega)] at h
      rw [zi1 (by omega), w32_id (x := (u : Int) + 0) (by omega)]
      exact h
    · rw [if_pos (show x = 0 by omega), if_pos (show m < y by omega), if_pos (show m < y by omega)] at h
      rw [zi1 (m := k) (by omega), zi1 (m := u) (by omega), w32_id (x := (n0 : Int) + (k : Int)) (by omega)]
      exact h
    · rw [if_pos (show x = 0 by omega), if_neg (show ¬ m < y by omega), if_neg (show ¬ m < y by omega)] at h
      rw [zi1 (m := k) (by omega), zi1 (m := u) (by omega)]
      exact h
  | c + 1, j, x, y, hj, hx, hy, e1, e2 => by
    refine x257_103 ⟨fun q => by omega, fun _ => ⟨by omega, by omega, fun q => ⟨fun q2 => ?_, fun q2 => ?_⟩, fun q => ?_⟩⟩
    · have ht := (hT j (by omega)).mp q
      rw [zcn_t ht] at e2
      rw [show k - j = 0 by omega] at e1
      rw [zi1 (m := j) (by omega), zi1 (m := y) (by omega), w32_id (x := (x : Int) + 0) (by omega)]
      exact c257i hs hk hn hu hT h c (j + 1) x (y + 1) (by omega) (by omega) (by omega) (by rw [show k - (j + 1) = 0 by omega]; exact e1) (by omega)
    · have ht := (hT j (by omega)).mp q
      rw [zcn_t ht] at e2
      rw [show k - j = (k - (j + 1)) + 1 by omega, zcn_t ht] at e1
      rw [zi1 (m := j) (by omega), zi1 (m := y) (by omega), zi1 (m := x) (by omega)]
      exact c257i hs hk hn hu hT h c (j + 1) (x + 1) (y + 1) (by omega) (by omega) (by omega) (by omega) (by omega)
    · have ht : zshe n0 k j = false := by
        cases hz : zshe n0 k j with
        | false => rfl
        | true => exact absurd ((hT j (by omega)).mpr hz) q
      rw [zcn_f ht] at e2
      rw [zi1 (m := j) (by omega)]
      refine c257i hs hk hn hu hT h c (j + 1) x y (by omega) (by omega) (by omega) ?_ e2
      by_cases z : j < k
      · rw [show k - j = (k - (j + 1)) + 1 by omega, zcn_f ht] at e1
        exact e1
      · rw [show k - j = 0 by omega] at e1
        rw [show k - (j + 1) = 0 by omega]; exact e1
theorem c257m {H0 : zHt} {n0 size : Nat} {t x : Int} (hs : size ≤ 201) (hn : n0 + size ≤ 1000000000) (f : zmf H0 H) (h0 : H 81 0 = 0) (hT : ∀ i j : Nat, i < size → j < size → (H 97 (j : Int) = H 97 (i : Int) ↔ zshe n0 i j = true)) : ∀ (c k u m b : Nat), k + c = size → u ≤ k → m ≤ size → b ≤ 999999999 → x = zpk3 t (zshl3 n0 size c k u m b) → zgo w (d + 1) 257 87 [zR 81, zI n0, zJ, zI t, zI size, zI u, zI m, zI b, zI k, zJ, zJ, zJ] [] H (zQI (zPM H0 (0, x)))
  | 0, k, u, m, b, hk, hu, hm, hb, e => by
    have e : x = zpk3 t (u, m, b) := e
    unfold zpk3 at e
    refine x257_87 ⟨fun _ => ⟨fun q => ⟨fun q2 => ?_, fun q2 => ?_⟩, fun q => ?_⟩, fun q => by omega⟩
    · rw [if_neg q, if_neg q2] at e
      exact zPM_0 f h0 (by rw [e])
    · rw [if_neg q, if_pos q2] at e
      exact zPM_0 f h0 (by rw [e])
    · rw [if_pos q] at e
      exact zPM_0 f h0 (by rw [e])
  | c + 1, k, u, m, b, hk, hu, hm, hb, e => by
    have l2 : zcn (zshe n0 k) size 0 ≤ size := zcn_le
    refine x257_87 ⟨fun q => by omega, fun _ => ?_⟩
    refine c257i (x := 0) (y := 0) (j := 0) (c := size) hs (by omega) hn hu (fun j hj => hT k j (by omega) hj) ?_ (by omega) (Nat.le_refl 0) (Nat.le_refl 0) (by rw [Nat.zero_add, Nat.sub_zero]) (by rw [Nat.zero_add])
    refine c257m hs hn f h0 hT c (k + 1) _ _ _ (by omega) ?_ ?_ ?_ e
    · split <;> omega
    · split <;> omega
    · split <;> omega
theorem c257f {H0 : zHt} {n0 size : Nat} {t : Int} (h1 : 1 ≤ n0) (hs : size ≤ 201) (hn : n0 + size ≤ 1000000000) : ∀ (c k : Nat) (H : zHt), k + c = size → zmf H0 H → H 81 0 = 0 → (∀ j : Nat, j < k → H 97 (j : Int) = ((zM32 (zshp (zfac (n0 + j))) : Nat) : Int)) → zgo w (d + 2) 257 47 [zR 81, zI n0, zJ, zI t, zI size, zI k, zJ, zJ, zJ, zJ, zJ, zJ] [] H (zQI (zPM H0 (0, zpk3 t (zshl3 n0 size size 0 0 0 0))))
  | 0, k, H, hk, f, h0, h => by
    refine x257_47 ⟨fun _ => ?_, fun q => by omega⟩
    refine c257m hs hn f h0 (fun i j hi hj => ?_) size 0 0 0 0 (by omega) (Nat.le_refl _) (Nat.zero_le _) (by omega) rfl
    rw [h i (by omega), h j (by omega)]
    unfold zshe
    rw [decide_eq_true_iff]
    exact (zshp_eq (by omega) (by omega) (zfac_good w (by omega) (by omega)) (zfac_good w (by omega) (by omega))).2
  | c + 1, k, H, hk, f, h0, h => by
    refine x257_47 ⟨fun q => by omega, fun _ => ?_⟩
    obtain ⟨H1, f1, e1⟩ := c258 (w := w) (d := d) (H := H) (n := n0 + k) (by omega) (by omega)
    rw [show w32 ((n0 : Int) + (k : Int)) = ((n0 + k : Nat) : Int) by rw [w32_id (by omega)]; omega, e1]
    refine ⟨by omega, ?_⟩
    rw [zi1 (by omega)]
    refine c257f h1 hs hn c (k + 1) _ (by omega) (zmf_up (zmf_fm f f1) rfl (by omega)) (by rw [zq_ne (by omega), f1 81 0 (by decide) (by decide) (by decide)]; exact h0) (fun j hj => ?_)
    by_cases z : j = k
    · subst z; rw [zq_eq]
    · rw [zq_ne (by omega), f1 97 j (by decide) (by decide) (by omega)]; exact h j (by omega)
-- shapes
theorem l1898 (hw : w.1 ≤ 3072) (hMR : zMR) : zLaw w (zKept zAllR) 1898 := fun H i hi hR K nx => x0_1898 (d := 1999) (by
  refine ⟨zidx hw hi (by decide) (by decide), zidx hw hi (by decide) (by decide), zidx hw hi (by decide) (by decide), ?_⟩
  generalize zH0 w.2 0 (w32 ((i : Int) + 1)) = a
  generalize zH0 w.2 0 (w32 ((i : Int) + 2)) = b
  generalize zH0 w.2 0 (w32 ((i : Int) + 3)) = t
  refine zcaseI (A := fun _ => zshA a b t) (fun _ _ _ => rfl) hR (fun hD hW => x147_0 (d := 1998) ?_) (fun H1 hD => x257_0 (d := 1998) ?_) (fun x y H' hk e => nx H' hk)
  · unfold zshA
    rw [c81]
    by_cases ha : (1 ≤ a ∧ a ≤ 999999999) ∧ (1 ≤ b ∧ b ≤ 999999999) ∧ a ≤ b ∧ b - a ≤ 200
    · rw [if_pos ha]
      refine ⟨fun q => absurd q (by decide), fun _ => ?_⟩
      rw [c44]
      by_cases ht : 0 ≤ t ∧ t ≤ 2
      · rw [if_pos ht, if_pos ⟨ha, ht⟩]
        refine ⟨fun _ => ?_, fun q => absurd q (by decide)⟩
        obtain ⟨n, rfl⟩ : ∃ n : Nat, a = n := ⟨a.toNat, by omega⟩
        obtain ⟨s, hs⟩ : ∃ s : Nat, b - n + 1 = s := ⟨(b - n + 1).toNat, by omega⟩
        rw [w32_id (x := b - (n : Int)) (by omega), w32_id (by omega), hs]
        exact c147f (d := 1995) hMR (by omega) (by omega) (by omega) s 0 H (by omega) zcf_rfl (fun j hj => absurd hj (Nat.not_lt_zero j))
      · rw [if_neg ht, if_neg (fun z => ht z.2)]
        exact ⟨fun q => absurd rfl q, fun _ => zPC_r zcf_rfl rfl⟩
    · rw [if_neg ha, if_neg (fun z => ha z.1)]
      exact ⟨fun _ => zPC_r zcf_rfl rfl, fun q => absurd rfl q⟩
  · unfold zshA
    rw [c201]
    by_cases ha : (1 ≤ a ∧ a ≤ 999999999) ∧ (1 ≤ b ∧ b ≤ 999999999) ∧ a ≤ b ∧ b - a ≤ 200
    · rw [if_pos ha]
      refine ⟨fun q => absurd q (by decide), fun _ => ?_⟩
      rw [c173]
      by_cases ht : 0 ≤ t ∧ t ≤ 2
      · rw [if_pos ht, if_pos ⟨ha, ht⟩, c174_0]
        refine ⟨fun q => absurd q (by decide), fun _ => ⟨fun _ => ?_, fun q => absurd q (by decide)⟩⟩
        obtain ⟨n, rfl⟩ : ∃ n : Nat, a = n := ⟨a.toNat, by omega⟩
        obtain ⟨s, hs⟩ : ∃ s : Nat, b - n + 1 = s := ⟨(b - n + 1).toNat, by omega⟩
        rw [w32_id (x := b - (n : Int)) (by omega), w32_id (by omega), hs]
        exact c257f (d := 1997) (by omega) (by omega) (by omega) s 0 _ (by omega) (zst_f zmf_rfl) zst_0 (fun j hj => absurd hj (Nat.not_lt_zero j))
      · rw [if_neg ht, if_neg (fun z => ht z.2), c174_1]
        exact ⟨fun _ => ⟨fun q => absurd rfl q, fun _ => zPM_n zmf_rfl rfl⟩, fun q => absurd rfl q⟩
    · rw [if_neg ha, if_neg (fun z => ha z.1), c174_1]
      exact ⟨fun _ => ⟨fun q => absurd rfl q, fun _ => zPM_n zmf_rfl rfl⟩, fun q => absurd rfl q⟩)
end Z69
