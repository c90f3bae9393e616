/-! the case alike -/
theorem zplc_v : ∀ {v : Int} {l : List Int} {k : Int}, 0 ≤ k → (zplc v l k = -1 ∧ ∀ i : Nat, i < l.length → l.getD i 0 ≠ v) ∨ ∃ i : Nat, i < l.length ∧ zplc v l k = k + i ∧ l.getD i 0 = v
  | v, [], k, _ => Or.inl ⟨rfl, fun i h => absurd h (Nat.not_lt_zero i)⟩
  | v, a :: l, k, hk => by
    unfold zplc
    by_cases h : a = v
    · rw [if_pos h]; exact Or.inr ⟨0, Nat.succ_pos _, by omega, h⟩
    · rw [if_neg h]
      rcases zplc_v (v := v) (l := l) (k := k + 1) (by omega) with ⟨z1, z2⟩ | ⟨i, z1, z2, z3⟩
      · refine Or.inl ⟨z1, fun i hi => ?_⟩
        cases i with
        | zero => exact h
        | succ i => exact z2 i (by rw [List.length_cons] at hi; omega)
      · exact Or.inr ⟨i + 1, by rw [List.length_cons]; omega, by omega, z3⟩
/-- values one from another, all unlike -/
def zch (law : Int) (vs : List Int) : Prop := (∀ k : Nat, k + 1 < vs.length → vs.getD (k + 1) 0 = zsum law (vs.getD k 0).toNat) ∧ ∀ i j : Nat, i < vs.length → j < vs.length → vs.getD i 0 = vs.getD j 0 → i = j
theorem zch_add {law x : Int} {vs : List Int} (h1 : 1 ≤ vs.length) (h : zch law vs) (hx : x = zsum law (vs.getD (vs.length - 1) 0).toNat) (hn : ∀ i : Nat, i < vs.length → vs.getD i 0 ≠ x) : zch law (vs ++ [x]) := by
  have hl : (vs ++ [x]).length = vs.length + 1 := by rw [List.length_append]; rfl
  refine ⟨fun k hk => ?_, fun i j hi hj e => ?_⟩
  · rw [hl] at hk
    rw [zget_app2 (show k < vs.length by omega)]
    by_cases z : k + 1 = vs.length
    · rw [z, zget_app, hx, show vs.length - 1 = k by omega]
    · rw [zget_app2 (show k + 1 < vs.length by omega)]; exact h.1 k (by omega)
  · rw [hl] at hi hj
    by_cases zi : i = vs.length
    · by_cases zj : j = vs.length
      · omega
      · rw [zi, zget_app, zget_app2 (show j < vs.length by omega)] at e
        exact absurd e.symm (hn j (by omega))
    · by_cases zj : j = vs.length
      · rw [zj, zget_app, zget_app2 (show i < vs.length by omega)] at e
        exact absurd e (hn i (by omega))
      · rw [zget_app2 (show i < vs.length by omega), zget_app2 (show j < vs.length by omega)] at e
        exact h.2 i j (by omega) (by omega) e
theorem zgoes_ch {law bound : Int} : ∀ (s : Nat) (vs : List Int), 1 ≤ vs.length → zch law vs → (zgoes law bound s vs).2.1 = 1 → zch law (zgoes law bound s vs).1 ∧ ∃ b : Nat, b < (zgoes law bound s vs).1.length ∧ (zgoes law bound s vs).2.2 = b ∧ (zgoes law bound s vs).1.getD b 0 = zsum law ((zgoes law bound s vs).1.getD ((zgoes law bound s vs).1.length - 1) 0).toNat
  | 0, vs, _, _, h => absurd (show (3 : Int) = 1 from h) (by decide)
  | s + 1, vs, h1, hc, h => by
    unfold zgoes at h ⊢
    rcases zplc_v (v := zsum law (vs.getD (vs.length - 1) 0).toNat) (l := vs) (k := 0) (Int.le_refl _) with ⟨z1, z2⟩ | ⟨i, z1, z2, z3⟩
    · have hne : ¬ zplc (zsum law (vs.getD (vs.length - 1) 0).toNat) vs 0 ≠ -1 := fun q => q z1
      rw [if_neg hne] at h ⊢
      by_cases y1 : bound < zsum law (vs.getD (vs.length - 1) 0).toNat
      · rw [if_pos y1] at h; exact absurd (show (2 : Int) = 1 from h) (by decide)
      · rw [if_neg y1] at h ⊢
        by_cases y2 : zsum law (vs.getD (vs.length - 1) 0).toNat = 0
        · rw [if_pos y2] at h; exact absurd (show (0 : Int) = 1 from h) (by decide)
        · rw [if_neg y2] at h ⊢
          exact zgoes_ch s _ (by rw [List.length_append]; omega) (zch_add h1 hc rfl z2) h
    · have hne : zplc (zsum law (vs.getD (vs.length - 1) 0).toNat) vs 0 ≠ -1 := by omega
      rw [if_pos hne] at h ⊢
      exact ⟨hc, i, z1, by show zplc _ vs 0 = _; rw [z2]; omega, z3⟩
theorem zrow_ch {law bound steps n : Int} (h : (zrow law bound steps n).2.1 = 1) : zch law (zrow law bound steps n).1 ∧ ∃ b : Nat, b < (zrow law bound steps n).1.length ∧ (zrow law bound steps n).2.2 = b ∧ (zrow law bound steps n).1.getD b 0 = zsum law ((zrow law bound steps n).1.getD ((zrow law bound steps n).1.length - 1) 0).toNat :=
  zgoes_ch _ [n] (Nat.le_refl 1) ⟨fun k hk => absurd hk (by show ¬ k + 1 < 1; omega), fun i j hi hj _ => by have hi : i < 1 := hi; have hj : j < 1 := hj; omega⟩ h
def zitn (F : Int → Int) : Nat → Int → Int
  | 0, x => x
  | t + 1, x => zitn F t (F x)
theorem zcyc {F : Int → Int} {c : Nat → Int} {L : Nat} (hL : 1 ≤ L) (hc : ∀ i, i < L → F (c i) = c ((i + 1) % L)) : ∀ t i, i < L → zitn F t (c i) = c ((i + t) % L)
  | 0, i, hi => by show c i = _; rw [Nat.add_zero, Nat.mod_eq_of_lt hi]
  | t + 1, i, hi => by
    show zitn F t (F (c i)) = _
    rw [hc i hi, zcyc hL hc t _ (Nat.mod_lt _ (by omega)), Nat.mod_add_mod, show i + 1 + t = i + (t + 1) by omega]
theorem zcyc_min {F : Int → Int} {c : Nat → Int} {L j t : Nat} (hL : 1 ≤ L) (hc : ∀ i, i < L → F (c i) = c ((i + 1) % L)) (hd : ∀ i j, i < L → j < L → c i = c j → i = j) (hj : j < L) (h0 : 0 < t) (ht : t < L) : zitn F t (c j) ≠ c j := fun e => by
  rw [zcyc hL hc t j hj] at e
  have h1 := hd _ _ (Nat.mod_lt _ (by omega)) hj e
  rcases Nat.lt_or_ge (j + t) L with z | z
  · rw [Nat.mod_eq_of_lt z] at h1; omega
  · rw [Nat.mod_eq_sub_mod z, Nat.mod_eq_of_lt (by omega)] at h1; omega
theorem zcyc_all {F : Int → Int} {c : Nat → Int} {L j : Nat} (hL : 1 ≤ L) (hc : ∀ i, i < L → F (c i) = c ((i + 1) % L)) (hj : j < L) : zitn F L (c j) = c j := by
  rw [zcyc hL hc L j hj, Nat.add_mod_right, Nat.mod_eq_of_lt hj]
theorem zround_cyc {law bound steps n : Int} (h : (zrow law bound steps n).2.1 = 1) : ∃ (c : Nat → Int) (L j : Nat), 1 ≤ L ∧ (L : Int) = (zrow law bound steps n).1.length - (zrow law bound steps n).2.2 ∧ (∀ i, i < L → zsum law (c i).toNat = c ((i + 1) % L)) ∧ (∀ i j, i < L → j < L → c i = c j → i = j) ∧ j < L ∧ zlor (zrow law bound steps n) = c j := by
  obtain ⟨⟨h1, h2⟩, b, h3, h4, h5⟩ := zrow_ch h
  unfold zlor
  generalize zrow law bound steps n = R at h1 h2 h3 h4 h5
  rw [h4]
  have e : (b : Int).toNat = b := rfl
  rw [e]
  obtain ⟨-, -, m⟩ := zmnl_le (vs := R.1) (c := R.1.length - b) (k := b) (m := R.1.getD b 0)
  have hj : ∃ j, j < R.1.length - b ∧ zmnl R.1 (R.1.length - b) b (R.1.getD b 0) = R.1.getD (b + j) 0 := by
    rcases m with z | ⟨i, i1, i2, i3⟩
    · exact ⟨0, by omega, z⟩
    · exact ⟨i - b, by omega, by rw [i3, show b + (i - b) = i by omega]⟩
  obtain ⟨j, j1, j2⟩ := hj
  refine ⟨fun i => R.1.getD (b + i) 0, R.1.length - b, j, by omega, by omega, fun i hi => ?_, fun i k hi hk q => ?_, j1, j2⟩
  · show zsum law (R.1.getD (b + i) 0).toNat = R.1.getD (b + (i + 1) % (R.1.length - b)) 0
    by_cases z : i + 1 = R.1.length - b
    · rw [z, Nat.mod_self, Nat.add_zero, h5, show b + i = R.1.length - 1 by omega]
    · rw [Nat.mod_eq_of_lt (by omega), ← h1 (b + i) (by omega)]; rfl
  · have := h2 (b + i) (b + k) (by omega) (by omega) q
    omega
/-- rounds of one least value are of one length -/
theorem zround_len {law b1 s1 n1 b2 s2 n2 : Int} (h1 : (zrow law b1 s1 n1).2.1 = 1) (h2 : (zrow law b2 s2 n2).2.1 = 1) (h : zlor (zrow law b1 s1 n1) = zlor (zrow law b2 s2 n2)) : ((zrow law b1 s1 n1).1.length : Int) - (zrow law b1 s1 n1).2.2 = (zrow law b2 s2 n2).1.length - (zrow law b2 s2 n2).2.2 := by
  obtain ⟨c, L, j, a1, a2, a3, a4, a5, a6⟩ := zround_cyc h1
  obtain ⟨e, M, k, b1, b2, b3, b4, b5, b6⟩ := zround_cyc h2
  rw [a6, b6] at h
  rcases Nat.lt_trichotomy L M with z | z | z
  · exact absurd (by rw [← h]; exact zcyc_all (F := fun x => zsum law x.toNat) a1 a3 a5) (zcyc_min (F := fun x => zsum law x.toNat) (t := L) b1 b3 b4 b5 (by omega) z)
  · rw [← a2, ← b2, z]
  · exact absurd (by rw [h]; exact zcyc_all (F := fun x => zsum law x.toNat) b1 b3 b5) (zcyc_min (F := fun x => zsum law x.toNat) (t := M) a1 a3 a4 a5 (by omega) z)
def zalike (R K : List Int × Int × Int) : Prop := K.2.1 = R.2.1 ∧ (R.2.1 = 1 → zlor K = zlor R)
noncomputable def zakb (R K : List Int × Int × Int) (k : Nat) : Int := by
  classical
  exact if zalike R K then zshl 1 k else 0
theorem zakb_p {R K : List Int × Int × Int} {k : Nat} (h : zalike R K) : zakb R K k = zshl 1 k := by
  unfold zakb; rw [if_pos h]
theorem zakb_n {R K : List Int × Int × Int} {k : Nat} (h : ¬ zalike R K) : zakb R K k = 0 := by
  unfold zakb; rw [if_neg h]
def zalk (f : Nat → Int) : Nat → Nat → Int → Int
  | 0, _, a => a
  | c + 1, k, a => zalk f c (k + 1) (zor a (f k))
noncomputable def zkey (R : List Int × Int × Int) : Int := if R.2.1 = 1 then 4 + 1000 * zlor R + R.1.length - R.2.2 else R.2.1
theorem zlor_bd {R : List Int × Int × Int} (hok : zRowOk R) (h : R.2.1 = 1) : 0 ≤ zlor R ∧ zlor R ≤ 999999999 ∧ 0 ≤ R.2.2 ∧ R.2.2 < R.1.length := by
  have hb : 0 ≤ R.2.2 ∧ R.2.2 < R.1.length := by
    rcases hok.2.2.2.2.1 with z | z
    · exact z.2
    · omega
  have hv := hok.2.2.1
  unfold zlor
  obtain ⟨-, -, m⟩ := zmnl_le (vs := R.1) (c := R.1.length - R.2.2.toNat) (k := R.2.2.toNat) (m := R.1.getD R.2.2.toNat 0)
  rcases m with z | ⟨i, i1, i2, i3⟩
  · rw [z]; have := hv R.2.2.toNat (by omega); omega
  · rw [i3]; have := hv i (by omega); omega
theorem zkey_iff {law bound steps n m : Int} (h1 : zRowOk (zrow law bound steps n)) (h2 : zRowOk (zrow law bound steps m)) : zkey (zrow law bound steps m) = zkey (zrow law bound steps n) ↔ zalike (zrow law bound steps n) (zrow law bound steps m) := by
  have l1 := fun q => zlor_bd h1 q
  have l2 := fun q => zlor_bd h2 q
  have rl := fun q1 q2 q3 => zround_len (law := law) (b1 := bound) (s1 := steps) (n1 := m) (b2 := bound) (s2 := steps) (n2 := n) q1 q2 q3
  generalize zrow law bound steps n = R at h1 l1 rl ⊢
  generalize zrow law bound steps m = K at h2 l2 rl ⊢
  have e1 := h1.2.2.2.2.1
  have e2 := h2.2.2.2.2.1
  have g1 := h1.2.1
  have g2 := h2.2.1
  unfold zkey zalike
  by_cases r1 : R.2.1 = 1
  · by_cases k1 : K.2.1 = 1
    · rw [if_pos r1, if_pos k1]
      have l1 := l1 r1
      have l2 := l2 k1
      refine ⟨fun q => ⟨by omega, fun _ => by omega⟩, fun q => ?_⟩
      have := rl k1 r1 (q.2 r1)
      have := q.2 r1
      omega
    · rw [if_pos r1, if_neg k1]
      have l1 := l1 r1
      refine ⟨fun q => by omega, fun q => by omega⟩
  · by_cases k1 : K.2.1 = 1
    · rw [if_neg r1, if_pos k1]
      have l2 := l2 k1
      refine ⟨fun q => by omega, fun q => by omega⟩
    · rw [if_neg r1, if_neg k1]
      exact ⟨fun q => ⟨q, fun z => absurd z r1⟩, fun q => q.1⟩
section Z66
variable {w : zWt} {d : Nat} {H : zHt}
noncomputable def zalA (H : zHt) (r : Int) : Int × Int := if 0 ≤ r ∧ r < H 40 1 then (0, zalk (fun k => zakb (zRW H r) (zRW H k) k) (H 40 1).toNat 0 0) else (2, -1)
theorem zRW_cf {H0 : zHt} {r : Int} (h : zkeep2 H0 H) : zRW H r = zRW H0 r := by
  unfold zRW
  rw [h 40 4 rfl, h 40 2 rfl, h 40 3 rfl, h 41 r rfl]
theorem zDk_cf {H0 : zHt} (h : zkeep2 H0 H) (hD : zDk H0) : zDk H := zDk_f (fun a j q => by
  rcases q with rfl | rfl | rfl
  · exact h 40 j rfl
  · exact h 41 j rfl
  · exact h 82 j rfl) hD
theorem c138l {H0 : zHt} {r : Nat} (hMR : zMR) (hD : zDk H0) (hW : zWlk H0) (hr : (r : Int) < H0 40 1) : ∀ (c k : Nat) (a : Int) (H : zHt), (k : Int) + c = H0 40 1 → zcf H0 H → zWalkIs H (69 + 2 * r) (zRW H0 r) → (zalk (fun k => zakb (zRW H0 r) (zRW H0 k) k) c k a = (zalA H0 r).2) → zgo w (d + 6) 138 25 [zR 32, zJ, zR (69 + 2 * r), zI a, zI k, zJ, zJ] [] H (zQI (zPC H0 (zalA H0 r)))
  | 0, k, a, H, hk, f, hw, e => by
    have h6 := hD.2.2.2.2.2.1
    have e1 := zcf_at f (a := 40) (j := 1) rfl
    refine x138_25 (zisW_r (by omega)) ⟨fun _ => ?_, fun q => by omega⟩
    refine zPC_d f ?_
    have e : a = (zalA H0 r).2 := e
    unfold zalA at e ⊢
    rw [if_pos (by omega)] at e ⊢
    rw [e]
  | c + 1, k, a, H, hk, f, hw, e => by
    have h6 := hD.2.2.2.2.2.1
    have e1 := zcf_at f (a := 40) (j := 1) rfl
    have e : zalk (fun k => zakb (zRW H0 r) (zRW H0 k) k) c (k + 1) (zor a (zakb (zRW H0 r) (zRW H0 k) k)) = (zalA H0 r).2 := e
    refine x138_25 (zisW_r (by omega)) ⟨fun q => by omega, fun _ => ?_⟩
    obtain ⟨H1, ⟨g1, -, g3, g4⟩, eq⟩ := c108 (w := w) (d := d) (H := H) (r := k) hMR (zDk_cf f.1.1 hD) (f.1.2 hW) (by omega)
    rw [eq]
    have f1 : zcf H0 H1 := zcf_tr f g1
    have wr : zWalkIs H1 (69 + 2 * r) (zRW H0 r) := by
      by_cases z : r = k
      · subst z; rw [zRW_cf f.1.1] at g3; exact g3
      · obtain ⟨a1, a2, a3, a4⟩ := hw
        have g := g4 r (by omega) z
        exact ⟨by rw [(g 1).1]; exact a1, by rw [(g 2).1]; exact a2, by rw [(g 3).1]; exact a3, zArr_eq (fun j _ => (g j).2) a4⟩
    rw [zRW_cf f.1.1] at g3
    refine ⟨zisW_r (by omega), ?_⟩
    rw [g3.2.1, wr.2.1]
    have okr := zRW_ok (r := r) hMR hD (by omega)
    have okk := zRW_ok (r := k) hMR hD (by omega)
    refine ⟨fun q => ?_, fun q => ⟨fun q2 => ?_, fun q2 => ?_⟩⟩
    · rw [zakb_n (fun z => q z.1)] at e
      rw [zi1 (by omega)]
      exact c138l hMR hD hW hr c (k + 1) _ H1 (by omega) f1 wr e
    · rw [zakb_p ⟨q, fun z => absurd z q2⟩] at e
      rw [zi1 (by omega)]
      exact c138l hMR hD hW hr c (k + 1) _ H1 (by omega) f1 wr e
    · rw [c113 (d := d + 3) (zisW_r (by omega)) okk (q.trans q2) g3, c113 (d := d + 3) (zisW_r (by omega)) okr q2 wr, zi1 (by omega)]
      refine ⟨fun q3 => ?_, fun q3 => ?_⟩
      · rw [zakb_n (fun z => q3 (z.2 q2))] at e
        exact c138l hMR hD hW hr c (k + 1) _ H1 (by omega) f1 wr e
      · rw [zakb_p ⟨q, fun _ => q3⟩] at e
        exact c138l hMR hD hW hr c (k + 1) _ H1 (by omega) f1 wr e
-- the model
theorem c250 {r : Int} {K : Int → zHt → Prop} (hMR : zMR) (hD : zDk H) (hr : 0 ≤ r ∧ r < H 40 1) (h : ∀ H1, zmf H H1 → H1 81 0 = H 81 0 → K (zkey (zRW H r)) H1) : zclL w (d + 5) 250 [zR 81, zI r] H K := by
  have h6 := hD.2.2.2.2.2.1
  obtain ⟨H1, ⟨g1, g2⟩, e⟩ := c226 (w := w) (d := d) (H0 := H) hMR hD hr
  have ok := zRW_ok hMR hD hr
  have m1 : zmf H H1 := ⟨zgf_keep g1, g1 32 14 (by decide) (by decide) (by decide) (by omega)⟩
  have s1 : H1 81 0 = H 81 0 := g1 81 0 (by decide) (by decide) (by decide) (by omega)
  have hg := h H1 m1 s1
  unfold zkey at hg
  refine x250_0 ⟨by omega, ?_⟩
  rw [e, g2.2.1]
  refine ⟨fun q => ?_, fun q => ?_⟩
  · have lb := zlor_bd ok q
    have lk := ok.2.1
    rw [c231 ok q g2, g2.1, g2.2.2.1]
    rw [if_pos q] at hg
    rw [w64_id (x := 1000 * zlor (zRW H r)) (by omega), w64_id (x := 4 + 1000 * zlor (zRW H r)) (by omega), w64_id (x := 4 + 1000 * zlor (zRW H r) + (zRW H r).1.length) (by omega), w64_id (by omega)]
    exact hg
  · rw [if_neg q] at hg; exact hg
theorem c249l {H0 : zHt} {r : Nat} (hMR : zMR) (hD : zDk H0) (hr : (r : Int) < H0 40 1) : ∀ (c k : Nat) (a : Int) (H : zHt), (k : Int) + c = H0 40 1 → zmf H0 H → H 81 0 = 0 → (zalk (fun k => zakb (zRW H0 r) (zRW H0 k) k) c k a = (zalA H0 r).2) → zgo w (d + 6) 249 27 [zR 81, zJ, zL (zkey (zRW H0 r)), zJ, zI a, zI k] [] H (zQI (zPM H0 (zalA H0 r)))
  | 0, k, a, H, hk, f, s, e => by
    have h6 := hD.2.2.2.2.2.1
    have e1 := zmf_at f (a := 82) (j := 6) rfl
    have e2 := hD.2.2.1
    refine x249_27 ⟨fun _ => zPM_0 f s ?_, fun q => by omega⟩
    have e : a = (zalA H0 r).2 := e
    unfold zalA at e ⊢
    rw [if_pos (by omega)] at e ⊢
    rw [e]
  | c + 1, k, a, H, hk, f, s, e => by
    have h6 := hD.2.2.2.2.2.1
    have e1 := zmf_at f (a := 82) (j := 6) rfl
    have e2 := hD.2.2.1
    have e : zalk (fun k => zakb (zRW H0 r) (zRW H0 k) k) c (k + 1) (zor a (zakb (zRW H0 r) (zRW H0 k) k)) = (zalA H0 r).2 := e
    have k2 := zkeep_2 f.1
    refine x249_27 ⟨fun q => by omega, fun _ => ?_⟩
    refine c250 (d := d) hMR (zDk_cf k2 hD) (by rw [k2 40 1 rfl]; omega) (fun H1 m1 s1 => ?_)
    rw [zRW_cf k2, zi1 (by omega)]
    have okr := zRW_ok (r := r) hMR hD (by omega)
    have okk := zRW_ok (r := k) hMR hD (by omega)
    have iff : zkey (zRW H0 k) = zkey (zRW H0 r) ↔ zalike (zRW H0 r) (zRW H0 k) := zkey_iff okr okk
    refine ⟨fun q => ?_, fun q => ?_⟩
    · rw [zakb_n (fun z => q (iff.mpr z))] at e
      exact c249l hMR hD hr c (k + 1) _ H1 (by omega) (zmf_tr f m1) (s1.trans s) e
    · rw [zakb_p (iff.mp q)] at e
      exact c249l hMR hD hr c (k + 1) _ H1 (by omega) (zmf_tr f m1) (s1.trans s) e
-- alike
theorem l1640 (hw : w.1 ≤ 3072) (hMR : zMR) : zLaw w (zKept zAllR) 1640 := fun H i hi hR K nx => x0_1640 (d := 1999) (by
  refine ⟨zidx hw hi (by decide) (by decide), ?_⟩
  generalize zH0 w.2 0 (w32 ((i : Int) + 1)) = r
  refine zcaseI (A := fun H => zalA H r) (fun H H1 h => ?_) hR (fun hD hW => x138_0 (d := 1998) ?_) (fun H1 hD => x249_0 (d := 1998) ?_) (fun x y H' hk e => nx H' hk)
  · have e : ∀ k : Int, zRW H1 k = zRW H k := fun k => zRW_cf h
    unfold zalA
    simp only [e, h 40 1 rfl]
  · have h6 := hD.2.2.2.2.2.1
    rw [c106 (by omega)]
    by_cases hr : 0 ≤ r ∧ r < H 40 1
    · rw [if_pos hr]
      refine ⟨fun _ => ?_, fun q => absurd q (by decide)⟩
      obtain ⟨r, rfl⟩ : ∃ n : Nat, r = n := ⟨r.toNat, by omega⟩
      obtain ⟨H1, ⟨g1, -, g3, g4⟩, eq⟩ := c108 (w := w) (d := 1993) (H := H) (r := r) hMR hD hW hr.2
      rw [eq]
      refine ⟨zisW_r (by omega), c138l (d := 1993) hMR hD hW hr.2 (H 40 1).toNat 0 0 H1 (by omega) g1 g3 ?_⟩
      unfold zalA
      rw [if_pos hr]
    · rw [if_neg hr]
      refine ⟨fun q => absurd rfl q, fun _ => zPC_r zcf_rfl ?_⟩
      unfold zalA
      rw [if_neg hr]
  · have h6 := hD.2.2.2.2.2.1
    have e2 := hD.2.2.1
    rw [c222 (by rw [e2]; exact h6), if_neg (by decide), e2]
    by_cases hr : 0 ≤ r ∧ r < H1 40 1
    · rw [if_pos hr, c174_0]
      refine ⟨fun _ => ?_, fun q => absurd q (by decide)⟩
      obtain ⟨r, rfl⟩ : ∃ n : Nat, r = n := ⟨r.toNat, by omega⟩
      have k2 : zkeep2 H1 (zst H1 0) := zkeep_2 (zst_f (s := 0) (zmf_rfl (H := H1))).1
      refine c250 (d := 1993) hMR (zDk_cf k2 hD) (by rw [k2 40 1 rfl]; exact hr) (fun H2 m2 s2 => ?_)
      rw [zRW_cf k2]
      refine c249l (d := 1993) hMR hD hr.2 (H1 40 1).toNat 0 0 H2 (by omega) (zmf_tr (zst_f zmf_rfl) m2) (s2.trans zst_0) ?_
      unfold zalA
      rw [if_pos hr]
    · rw [if_neg hr, c174_2]
      refine ⟨fun q => absurd rfl q, fun _ => zPM_n zmf_rfl ?_⟩
      unfold zalA
      rw [if_neg hr])
end Z66
