/-! the cases rows, lengths -/
noncomputable def zrwn (law bound steps : Int) (n : Nat) : List Int × Int × Int := zrow law bound steps n
noncomputable def zPlen (law bound steps m : Int) (n : Nat) : Bool := decide (((zrow law bound steps n).1.length : Int) = m)
noncomputable def zAlen (H : zHt) (a b m : Int) : Int × Int := if ((1 ≤ a ∧ a ≤ 999999999) ∧ (1 ≤ b ∧ b ≤ 999999999) ∧ a ≤ b ∧ b - a ≤ 50) ∧ 1 ≤ m then (0, (zcn (zPlen (H 40 4) (H 40 2) (H 40 3) m) (b + 1 - a).toNat a.toNat : Int)) else (1, -1)
theorem zAlen_con {a b m : Int} : zcon (fun H => zAlen H a b m) := fun H H1 h => by
  show zAlen H1 a b m = zAlen H a b m
  unfold zAlen
  rw [h 40 2 rfl, h 40 3 rfl, h 40 4 rfl]
def ztop (r : List Int × Int × Int) : Int := r.1.getD (zpk r.1 (r.1.length - 1) 1 0) 0
noncomputable def zRl (law bound steps t : Int) : Nat → Nat → Nat → Nat → Nat → Int → Int × Int
  | 0, _, so, lo, be, gr => (0, if t < 4 then (so : Int) else if t = 4 then (be : Int) else if t = 5 then (lo : Int) else gr)
  | c + 1, n, so, lo, be, gr => zRl law bound steps t c (n + 1) (if (zrow law bound steps n).2.1 = t then so + 1 else so) (if lo < (zrow law bound steps n).1.length then (zrow law bound steps n).1.length else lo) (if lo < (zrow law bound steps n).1.length then n else be) (if gr < ztop (zrow law bound steps n) then ztop (zrow law bound steps n) else gr)
noncomputable def zArow (H : zHt) (a b t : Int) : Int × Int := if ((1 ≤ a ∧ a ≤ 999999999) ∧ (1 ≤ b ∧ b ≤ 999999999) ∧ a ≤ b ∧ b - a ≤ 50) ∧ 0 ≤ t ∧ t ≤ 6 then zRl (H 40 4) (H 40 2) (H 40 3) t (b + 1 - a).toNat a.toNat 0 0 0 0 else (1, -1)
theorem zArow_con {a b m : Int} : zcon (fun H => zArow H a b m) := fun H H1 h => by
  show zArow H1 a b m = zArow H a b m
  unfold zArow
  rw [h 40 2 rfl, h 40 3 rfl, h 40 4 rfl]
section Z53
variable {w : zWt} {d : Nat} {H : zHt}
/-- the class tells a row for one number -/
theorem c109s {H0 : zHt} {n : Nat} (hMR : zMR) (hD : zDk H0) (hF : zcf H0 H) (h1 : 1 ≤ n) (hn : n ≤ 999999999) : ∃ H', (zcf H0 H' ∧ zWalkIs H' 46 (zrow (H0 40 4) (H0 40 2) (H0 40 3) n)) ∧ ∀ K : zHt → Prop, zclV w (d + 4) 109 [zR 46, zI n, zI (H 40 4), zR 40, zR 36] H K = K H' := by
  have e2 := zcf_at hF (a := 40) (j := 2) rfl
  have e3 := zcf_at hF (a := 40) (j := 3) rfl
  have e4 := zcf_at hF (a := 40) (j := 4) rfl
  obtain ⟨H2, ⟨f2, -, w2⟩, e⟩ := c109 (w := w) (d := d) (H := H) (o := 46) (n := n) (law := H 40 4) hMR (Or.inl rfl) (by rw [e4]; exact hD.1) (by rw [e2]; exact hD.2.2.2.2.2.2.1.2) (by rw [e3]; exact hD.2.2.2.2.2.2.2.1) (by omega)
  rw [e2, e3, e4] at w2
  exact ⟨H2, ⟨zcf_tr hF (zcf_46 f2), w2⟩, e⟩
theorem zrow_okn {n : Nat} (hMR : zMR) (hD : zDk H) (h1 : 1 ≤ n) (hn : n ≤ 999999999) : zRowOk (zrow (H 40 4) (H 40 2) (H 40 3) n) := zrow_ok hMR hD.1 hD.2.2.2.2.2.2.1.2 hD.2.2.2.2.2.2.2.1.2 (by omega)
theorem c226n {H0 : zHt} {n : Nat} (hMR : zMR) (hD : zDk H0) (hF : zmf H0 H) (h1 : 1 ≤ n) (hn : n ≤ 999999999) : ∃ H', (zgf H H' ∧ zMrow H' (zrow (H0 40 4) (H0 40 2) (H0 40 3) n)) ∧ ∀ K : zHt → Prop, zclV w (d + 4) 226 [zR 81, zI n] H K = K H' := by
  have e7 : H 82 7 = H0 40 2 := (zmf_at hF rfl).trans hD.2.2.2.1
  have e8 : H 82 8 = H0 40 3 := (zmf_at hF rfl).trans hD.2.2.2.2.1
  have e9 : H 82 9 = H0 40 4 := (zmf_at hF rfl).trans hD.2.1
  obtain ⟨H1, ⟨f, hm⟩, e1⟩ := c227 (w := w) (d := d) (H := H) (n := n) (law := H 82 9) hMR (by rw [e9]; exact hD.1) (by rw [e7]; exact hD.2.2.2.2.2.2.1.2) (by rw [e8]; exact hD.2.2.2.2.2.2.2.1) (by omega)
  rw [e7, e8, e9] at hm
  exact ⟨H1, ⟨f, hm⟩, fun K => zclV_eq fun K h => x226_0 (by rw [e1]; exact h)⟩
-- lengths
theorem b146l {H0 : zHt} {b m : Int} {A : Int × Int} (hMR : zMR) (hD : zDk H0) (hb : b ≤ 999999999) : ∀ (c n f : Nat) (H : zHt), zcf H0 H → (n : Int) + c = b + 1 → 1 ≤ n → f + c ≤ 300 → A = (0, ((f + zcn (zPlen (H0 40 4) (H0 40 2) (H0 40 3) m) c n : Nat) : Int)) → zgo w (d + 5) 146 27 [zR 32, zJ, zI b, zI m, zI f, zI n] [] H (zQI (zPC H0 A)) := by
  intro c
  induction c with
  | zero =>
    intro n f H hF hn n1 hf hA
    exact x146_27 ⟨fun _ => zPC_d hF hA, fun q => by omega⟩
  | succ c ih =>
    intro n f H hF hn n1 hf hA
    obtain ⟨H1, ⟨hF1, w1⟩, e⟩ := c109s (w := w) (d := d) (H := H) (H0 := H0) (n := n) hMR hD hF n1 (by omega)
    refine x146_27 ⟨fun q => by omega, fun _ => ?_⟩
    rw [e, zi0 (by omega), zi1 (by omega), zi1 (by omega), w1.1]
    refine ⟨fun q => ?_, fun q => ?_⟩
    · rw [zcn_f (decide_eq_false q)] at hA
      exact ih (n + 1) f H1 hF1 (by omega) (by omega) (by omega) hA
    · rw [zcn_t (decide_eq_true q), show f + (zcn (zPlen (H0 40 4) (H0 40 2) (H0 40 3) m) c (n + 1) + 1) = f + 1 + zcn (zPlen (H0 40 4) (H0 40 2) (H0 40 3) m) c (n + 1) by omega] at hA
      exact ih (n + 1) (f + 1) H1 hF1 (by omega) (by omega) (by omega) hA
theorem b146 {a b m : Int} (hMR : zMR) (hD : zDk H) : zclI w (d + 5) 146 [zR 32, zI a, zI b, zI m] H (zPC H (zAlen H a b m)) := by
  unfold zAlen
  by_cases hg : ((1 ≤ a ∧ a ≤ 999999999) ∧ (1 ≤ b ∧ b ≤ 999999999) ∧ a ≤ b ∧ b - a ≤ 50) ∧ 1 ≤ m
  · rw [if_pos hg]
    obtain ⟨n, rfl⟩ : ∃ m : Nat, a = m := ⟨a.toNat, by omega⟩
    refine x146_0 ?_
    simp only [c43, c44, c81, zit0, Classical.not_not]
    repeat' (first | omega | intro _ | with_reducible refine And.intro ?_ ?_)
    exact b146l hMR hD (by omega) (b + 1 - n).toNat n 0 H zcf_rfl (by omega) (by omega) (by omega) (by rw [Nat.zero_add, Int.toNat_natCast])
  · have eA : (1, -1) = ((1 : Int), (-1 : Int)) := rfl
    rw [if_neg hg]
    refine x146_0 ?_
    simp only [c43, c44, c81, zit0, Classical.not_not]
    repeat' (first | exact zPC_r zcf_rfl eA | omega | intro _ | with_reducible refine And.intro ?_ ?_)
theorem b256l {H0 : zHt} {b m : Int} {A : Int × Int} (hMR : zMR) (hD : zDk H0) (hb : b ≤ 999999999) : ∀ (c n f : Nat) (H : zHt), zmf H0 H → H 81 0 = 0 → (n : Int) + c = b + 1 → 1 ≤ n → f + c ≤ 300 → A = (0, ((f + zcn (zPlen (H0 40 4) (H0 40 2) (H0 40 3) m) c n : Nat) : Int)) → zgo w (d + 5) 256 35 [zR 81, zJ, zI b, zI m, zI f, zI n] [] H (zQI (zPM H0 A)) := by
  intro c
  induction c with
  | zero =>
    intro n f H hF hs hn n1 hf hA
    exact x256_35 ⟨fun _ => zPM_0 hF hs hA, fun q => by omega⟩
  | succ c ih =>
    intro n f H hF hs hn n1 hf hA
    obtain ⟨H1, ⟨f1, w1⟩, e⟩ := c226n (w := w) (d := d) (H := H) (H0 := H0) (n := n) hMR hD hF n1 (by omega)
    have hs1 : H1 81 0 = 0 := (f1 81 0 (by decide) (by decide) (by decide) (by decide)).trans hs
    refine x256_35 ⟨fun q => by omega, fun _ => ?_⟩
    rw [e, zi0 (by omega), zi1 (by omega), zi1 (by omega), w1.1]
    refine ⟨fun q => ?_, fun q => ?_⟩
    · rw [zcn_f (decide_eq_false q)] at hA
      exact ih (n + 1) f H1 (zmf_gf hF f1) hs1 (by omega) (by omega) (by omega) hA
    · rw [zcn_t (decide_eq_true q), show f + (zcn (zPlen (H0 40 4) (H0 40 2) (H0 40 3) m) c (n + 1) + 1) = f + 1 + zcn (zPlen (H0 40 4) (H0 40 2) (H0 40 3) m) c (n + 1) by omega] at hA
      exact ih (n + 1) (f + 1) H1 (zmf_gf hF f1) hs1 (by omega) (by omega) (by omega) hA
theorem b256 {a b m : Int} (hMR : zMR) (hD : zDk H) : zclI w (d + 5) 256 [zR 81, zI a, zI b, zI m] H (zPM H (zAlen H a b m)) := by
  unfold zAlen
  by_cases hg : ((1 ≤ a ∧ a ≤ 999999999) ∧ (1 ≤ b ∧ b ≤ 999999999) ∧ a ≤ b ∧ b - a ≤ 50) ∧ 1 ≤ m
  · rw [if_pos hg]
    obtain ⟨n, rfl⟩ : ∃ m : Nat, a = m := ⟨a.toNat, by omega⟩
    refine x256_0 ?_
    simp only [c176, c173, c201, c174_0, c174_1, c174_2, c174_3, c174_4, c174_5, zit0, z10a, z10b, Classical.not_not, not_true_eq_false, false_implies, true_implies, true_and, and_true]
    repeat' (first | omega | intro _ | with_reducible refine And.intro ?_ ?_)
    exact b256l hMR hD (by omega) (b + 1 - n).toNat n 0 (zst H 0) (zst_f zmf_rfl) rfl (by omega) (by omega) (by omega) (by rw [Nat.zero_add, Int.toNat_natCast])
  · have eA : (1, -1) = ((1 : Int), (-1 : Int)) := rfl
    rw [if_neg hg]
    refine x256_0 ?_
    simp only [c176, c173, c201, c174_0, c174_1, c174_2, c174_3, c174_4, c174_5, zit0, z10a, z10b, Classical.not_not, not_true_eq_false, false_implies, true_implies, true_and, and_true]
    repeat' (first | exact zPM_n zmf_rfl eA | omega | intro _ | with_reducible refine And.intro ?_ ?_)
-- rows
theorem b145l {H0 : zHt} {b t : Int} {A : Int × Int} (hMR : zMR) (hD : zDk H0) (hb : b ≤ 999999999) (ht : 0 ≤ t ∧ t ≤ 6) : ∀ (c n so lo be : Nat) (gr : Int) (H : zHt), zcf H0 H → (n : Int) + c = b + 1 → 1 ≤ n → so + c ≤ 300 → zRl (H0 40 4) (H0 40 2) (H0 40 3) t c n so lo be gr = A → zgo w (d + 5) 145 40 [zR 32, zJ, zI b, zI t, zI so, zI lo, zI be, zI gr, zI n] [] H (zQI (zPC H0 A)) := by
  intro c
  induction c with
  | zero =>
    intro n so lo be gr H hF hn n1 hf hA
    have hA : ((0 : Int), if t < 4 then (so : Int) else if t = 4 then (be : Int) else if t = 5 then (lo : Int) else gr) = A := hA
    refine x145_40 ⟨fun _ => ⟨fun q => zPC_d hF ?_, fun q => zPC_d hF ?_, fun q => zPC_d hF ?_, fun q => zPC_d hF ?_⟩, fun q => by omega⟩
    · rw [← hA, if_pos (by omega)]
    · rw [← hA, if_neg (by omega), if_pos q]
    · rw [← hA, if_neg (by omega), if_neg (by omega), if_pos q]
    · rw [← hA, if_neg (by omega), if_neg (by omega), if_neg (by omega)]
  | succ c ih =>
    intro n so lo be gr H hF hn n1 hf hA
    have ok := zrow_okn hMR hD n1 (show n ≤ 999999999 by omega)
    obtain ⟨H1, ⟨hF1, w1⟩, e⟩ := c109s (w := w) (d := d) (H := H) (H0 := H0) (n := n) hMR hD hF n1 (by omega)
    unfold zRl at hA
    have hp := zpk_lt (vs := (zrow (H0 40 4) (H0 40 2) (H0 40 3) n).1) (c := (zrow (H0 40 4) (H0 40 2) (H0 40 3) n).1.length - 1) (k := 1) (p := 0) (by omega)
    have hdef : ztop (zrow (H0 40 4) (H0 40 2) (H0 40 3) n) = (zrow (H0 40 4) (H0 40 2) (H0 40 3) n).1.getD (zpk (zrow (H0 40 4) (H0 40 2) (H0 40 3) n).1 ((zrow (H0 40 4) (H0 40 2) (H0 40 3) n).1.length - 1) 1 0) 0 := rfl
    have B : ∀ (so' : Nat) (s0 : Int), so' + c ≤ 300 → (so' : Int) = so + s0 → so' = (if (zrow (H0 40 4) (H0 40 2) (H0 40 3) n).2.1 = t then so + 1 else so) → zgo w (d + 5) 145 88 [zR 32, zJ, zI b, zI t, zJ, zI lo, zI be, zI gr, zI n] [zI s0, zI so] H1 (zQI (zPC H0 A)) := fun so' s0 hs1 hs2 hs3 => by
      rw [← hs3] at hA
      have h46 : zisW 46 := Or.inl rfl
      have k1 := ok.1
      have k2 := ok.2.1
      have w4 := w1.2.2.2
      have et : ∀ p : Nat, p < (zrow (H0 40 4) (H0 40 2) (H0 40 3) n).1.length → H1 47 p = (zrow (H0 40 4) (H0 40 2) (H0 40 3) n).1.getD p 0 := fun p hp => w4 p hp
      refine x145_88 ?_
      simp only [c116 h46 ok w1]
      rw [et _ (by omega), ← hdef, w1.1, show w32 ((so : Int) + s0) = (so' : Int) by rw [← hs2]; exact w32_id (by omega), zi1 (by omega)]
      refine ⟨fun q => ⟨by omega, ?_⟩, fun q => ⟨by omega, ?_⟩⟩
      · rw [if_neg (by omega), if_neg (by omega)] at hA
        exact ih (n + 1) so' lo be _ H1 hF1 (by omega) (by omega) hs1 hA
      · rw [if_pos (by omega), if_pos (by omega)] at hA
        exact ih (n + 1) so' _ n _ H1 hF1 (by omega) (by omega) hs1 hA
    refine x145_40 ⟨fun q => by omega, fun _ => ?_⟩
    rw [e, w1.2.1]
    exact ⟨fun q => B so 0 (by omega) (by omega) (by rw [if_neg q]), fun q => B (so + 1) 1 (by omega) (by omega) (by rw [if_pos q])⟩
theorem b145 {a b t : Int} (hMR : zMR) (hD : zDk H) : zclI w (d + 5) 145 [zR 32, zI a, zI b, zI t] H (zPC H (zArow H a b t)) := by
  unfold zArow
  by_cases hg : ((1 ≤ a ∧ a ≤ 999999999) ∧ (1 ≤ b ∧ b ≤ 999999999) ∧ a ≤ b ∧ b - a ≤ 50) ∧ 0 ≤ t ∧ t ≤ 6
  · rw [if_pos hg]
    obtain ⟨n, rfl⟩ : ∃ m : Nat, a = m := ⟨a.toNat, by omega⟩
    refine x145_0 ?_
    simp only [c43, c44, c81, zit0, Classical.not_not]
    repeat' (first | omega | intro _ | with_reducible refine And.intro ?_ ?_)
    exact b145l hMR hD (by omega) hg.2 (b + 1 - n).toNat n 0 0 0 0 H zcf_rfl (by omega) (by omega) (by omega) (by rw [Int.toNat_natCast])
  · have eA : (1, -1) = ((1 : Int), (-1 : Int)) := rfl
    rw [if_neg hg]
    refine x145_0 ?_
    simp only [c43, c44, c81, zit0, Classical.not_not]
    repeat' (first | exact zPC_r zcf_rfl eA | omega | intro _ | with_reducible refine And.intro ?_ ?_)
theorem b255l {H0 : zHt} {b t : Int} {A : Int × Int} (hMR : zMR) (hD : zDk H0) (hb : b ≤ 999999999) (ht : 0 ≤ t ∧ t ≤ 6) : ∀ (c n so lo be : Nat) (gr : Int) (H : zHt), zmf H0 H → H 81 0 = 0 → (n : Int) + c = b + 1 → 1 ≤ n → so + c ≤ 300 → zRl (H0 40 4) (H0 40 2) (H0 40 3) t c n so lo be gr = A → zgo w (d + 5) 255 51 [zR 81, zJ, zI b, zI t, zI so, zI be, zI lo, zI gr, zI n, zJ] [] H (zQI (zPM H0 A)) := by
  intro c
  induction c with
  | zero =>
    intro n so lo be gr H hF hs hn n1 hf hA
    have hA : ((0 : Int), if t < 4 then (so : Int) else if t = 4 then (be : Int) else if t = 5 then (lo : Int) else gr) = A := hA
    refine x255_51 ⟨fun _ => ⟨fun q => ⟨fun q2 => ⟨fun q3 => zPM_0 hF hs ?_, fun q3 => zPM_0 hF hs ?_⟩, fun q2 => zPM_0 hF hs ?_⟩, fun q => zPM_0 hF hs ?_⟩, fun q => by omega⟩
    · rw [← hA, if_neg (by omega), if_neg (by omega), if_neg (by omega)]
    · rw [← hA, if_neg (by omega), if_neg (by omega), if_pos q3]
    · rw [← hA, if_neg (by omega), if_pos q2]
    · rw [← hA, if_pos (by omega)]
  | succ c ih =>
    intro n so lo be gr H hF hs hn n1 hf hA
    have ok := zrow_okn hMR hD n1 (show n ≤ 999999999 by omega)
    obtain ⟨H1, ⟨f1, w1⟩, e⟩ := c226n (w := w) (d := d) (H := H) (H0 := H0) (n := n) hMR hD hF n1 (by omega)
    have hs1 : H1 81 0 = 0 := (f1 81 0 (by decide) (by decide) (by decide) (by decide)).trans hs
    have hF1 := zmf_gf hF f1
    unfold zRl at hA
    have hp := zpk_lt (vs := (zrow (H0 40 4) (H0 40 2) (H0 40 3) n).1) (c := (zrow (H0 40 4) (H0 40 2) (H0 40 3) n).1.length - 1) (k := 1) (p := 0) (by omega)
    have hdef : ztop (zrow (H0 40 4) (H0 40 2) (H0 40 3) n) = (zrow (H0 40 4) (H0 40 2) (H0 40 3) n).1.getD (zpk (zrow (H0 40 4) (H0 40 2) (H0 40 3) n).1 ((zrow (H0 40 4) (H0 40 2) (H0 40 3) n).1.length - 1) 1 0) 0 := rfl
    have B : ∀ (so' : Nat) (s0 : Int), so' + c ≤ 300 → (so' : Int) = so + s0 → so' = (if (zrow (H0 40 4) (H0 40 2) (H0 40 3) n).2.1 = t then so + 1 else so) → zgo w (d + 5) 255 78 [zR 81, zJ, zI b, zI t, zJ, zI be, zI lo, zI gr, zI n, zJ] [zI s0, zI so] H1 (zQI (zPM H0 A)) := fun so' s0 hs1' hs2 hs3 => by
      rw [← hs3] at hA
      have k1 := ok.1
      have k2 := ok.2.1
      refine x255_78 ?_
      rw [c233 ok w1, w1.2.2.2 _ (by omega), ← hdef, w1.1, show w32 ((so : Int) + s0) = (so' : Int) by rw [← hs2]; exact w32_id (by omega), zi1 (by omega)]
      refine ⟨by omega, fun q => ⟨fun q2 => ?_, fun q2 => ?_⟩, fun q => ⟨fun q2 => ?_, fun q2 => ?_⟩⟩
      · rw [if_pos (by omega), if_pos (by omega), if_neg (by omega)] at hA
        exact ih (n + 1) so' _ n _ H1 hF1 hs1 (by omega) (by omega) hs1' hA
      · rw [if_neg (by omega), if_neg (by omega), if_neg (by omega)] at hA
        exact ih (n + 1) so' lo be _ H1 hF1 hs1 (by omega) (by omega) hs1' hA
      · rw [if_pos (by omega), if_pos (by omega), if_pos q] at hA
        exact ih (n + 1) so' _ n _ H1 hF1 hs1 (by omega) (by omega) hs1' hA
      · rw [if_neg (by omega), if_neg (by omega), if_pos q] at hA
        exact ih (n + 1) so' lo be _ H1 hF1 hs1 (by omega) (by omega) hs1' hA
    refine x255_51 ⟨fun q => by omega, fun _ => ?_⟩
    rw [e, w1.2.1]
    exact ⟨fun q => B so 0 (by omega) (by omega) (by rw [if_neg q]), fun q => B (so + 1) 1 (by omega) (by omega) (by rw [if_pos q])⟩
theorem b255 {a b t : Int} (hMR : zMR) (hD : zDk H) : zclI w (d + 5) 255 [zR 81, zI a, zI b, zI t] H (zPM H (zArow H a b t)) := by
  unfold zArow
  by_cases hg : ((1 ≤ a ∧ a ≤ 999999999) ∧ (1 ≤ b ∧ b ≤ 999999999) ∧ a ≤ b ∧ b - a ≤ 50) ∧ 0 ≤ t ∧ t ≤ 6
  · rw [if_pos hg]
    obtain ⟨n, rfl⟩ : ∃ m : Nat, a = m := ⟨a.toNat, by omega⟩
    refine x255_0 ?_
    simp only [c176, c173, c201, c174_0, c174_1, c174_2, c174_3, c174_4, c174_5, zit0, z10a, z10b, Classical.not_not, not_true_eq_false, false_implies, true_implies, true_and, and_true]
    repeat' (first | omega | intro _ | with_reducible refine And.intro ?_ ?_)
    exact b255l hMR hD (by omega) hg.2 (b + 1 - n).toNat n 0 0 0 0 (zst H 0) (zst_f zmf_rfl) rfl (by omega) (by omega) (by omega) (by rw [Int.toNat_natCast])
  · have eA : (1, -1) = ((1 : Int), (-1 : Int)) := rfl
    rw [if_neg hg]
    refine x255_0 ?_
    simp only [c176, c173, c201, c174_0, c174_1, c174_2, c174_3, c174_4, c174_5, zit0, z10a, z10b, Classical.not_not, not_true_eq_false, false_implies, true_implies, true_and, and_true]
    repeat' (first | exact zPM_n zmf_rfl eA | omega | intro _ | with_reducible refine And.intro ?_ ?_)
end Z53
theorem l1812 {w : zWt} (hw : w.1 ≤ 3072) (hMR : zMR) : zLaw w (zKept zAllR) 1812 := fun H i hi hR K nx => x0_1812 (d := 1999) (by
  refine ⟨zidx hw hi (by decide) (by decide), zidx hw hi (by decide) (by decide), zidx hw hi (by decide) (by decide), ?_⟩
  have r1 : r32 (zH0 w.2 0 (w32 ((i : Int) + 1))) := zv_r
  generalize zH0 w.2 0 (w32 ((i : Int) + 1)) = v1 at r1 ⊢
  have r2 : r32 (zH0 w.2 0 (w32 ((i : Int) + 2))) := zv_r
  generalize zH0 w.2 0 (w32 ((i : Int) + 2)) = v2 at r2 ⊢
  have r3 : r32 (zH0 w.2 0 (w32 ((i : Int) + 3))) := zv_r
  generalize zH0 w.2 0 (w32 ((i : Int) + 3)) = v3 at r3 ⊢
  exact zcaseI (A := fun H => zArow H v1 v2 v3) zArow_con hR (fun hD hW => b145 (d := 1994) hMR hD) (fun H1 hD => b255 (d := 1994) hMR hD) (fun x y H' hk e => nx H' hk))
theorem l1855 {w : zWt} (hw : w.1 ≤ 3072) (hMR : zMR) : zLaw w (zKept zAllR) 1855 := fun H i hi hR K nx => x0_1855 (d := 1999) (by
  refine ⟨zidx hw hi (by decide) (by decide), zidx hw hi (by decide) (by decide), zidx hw hi (by decide) (by decide), ?_⟩
  have r1 : r32 (zH0 w.2 0 (w32 ((i : Int) + 1))) := zv_r
  generalize zH0 w.2 0 (w32 ((i : Int) + 1)) = v1 at r1 ⊢
  have r2 : r32 (zH0 w.2 0 (w32 ((i : Int) + 2))) := zv_r
  generalize zH0 w.2 0 (w32 ((i : Int) + 2)) = v2 at r2 ⊢
  have r3 : r32 (zH0 w.2 0 (w32 ((i : Int) + 3))) := zv_r
  generalize zH0 w.2 0 (w32 ((i : Int) + 3)) = v3 at r3 ⊢
  exact zcaseI (A := fun H => zAlen H v1 v2 v3) zAlen_con hR (fun hD hW => b146 (d := 1994) hMR hD) (fun H1 hD => b256 (d := 1994) hMR hD) (fun x y H' hk e => nx H' hk))
