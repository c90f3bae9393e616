/-! the case guides -/
section Z51
variable {w : zWt} {d : Nat} {H : zHt}
theorem c129 {first i : Nat} {K : Int → zHt → Prop} (hf : first ≤ 501) (hi : i < 501) : zclI w d 129 [zR 32, zI first, zI i] H K = K (zcn (fun j => decide (H 51 j = H 51 i)) first 0 : Int) H := by
  have L : ∀ (c j f : Nat) (K : Int → zHt → Prop), j + c = first → f + c ≤ 600 → K ((f + zcn (fun j => decide (H 51 j = H 51 i)) c j : Nat) : Int) H → zgo w d 129 5 [zR 32, zI first, zI i, zI f, zI j] [] H (zQI K) := by
    intro c
    induction c with
    | zero => exact fun j f K h1 h2 h => x129_5 ⟨fun _ => h, fun q => by omega⟩
    | succ c ih =>
      intro j f K h1 h2 h
      refine x129_5 ⟨fun q => by omega, fun _ => ⟨fun q => by omega, fun _ => ⟨fun q => by omega, fun _ => ⟨by omega, by omega, ?_⟩⟩⟩⟩
      rw [zi0 (by omega), zi1 (by omega), zi1 (by omega)]
      refine ⟨fun q => ?_, fun q => ?_⟩
      · rw [zcn_f (P := fun j => decide (H 51 j = H 51 i)) (decide_eq_false q)] at h
        exact ih (j + 1) f K (by omega) (by omega) h
      · rw [zcn_t (P := fun j => decide (H 51 j = H 51 i)) (decide_eq_true q)] at h
        exact ih (j + 1) (f + 1) K (by omega) (by omega) (by rw [show f + 1 + zcn (fun j => decide (H 51 j = H 51 i)) c (j + 1) = f + (zcn (fun j => decide (H 51 j = H 51 i)) c (j + 1) + 1) by omega]; exact h)
  exact zclI_eq fun K h => x129_0 (L first 0 0 K (by omega) (by omega) (by rw [Nat.zero_add]; exact h))
theorem c128 {o : Int} {r : List Int × Int × Int} (ho : zisW o) (hok : zRowOk r) (hw : zWalkIs H o r) : ∃ H', ((∀ a j : Int, a ≠ 51 → H' a j = H a j) ∧ ∀ j : Nat, j < r.1.length → H' 51 j = zgk r.1 j) ∧ ∀ K : Int → zHt → Prop, zclI w (d + 3) 128 [zR 32, zR o] H K = K r.1.length H' := by
  have hob := zisW_b ho
  have k1 := hok.1
  have k2 := hok.2.1
  have L : ∀ (c k : Nat) (H1 : zHt), k + c = r.1.length → (∀ a j : Int, a ≠ 51 → H1 a j = H a j) → (∀ j : Nat, j < k → H1 51 j = zgk r.1 j) → zgo w (d + 3) 128 15 [zR 32, zR o, zI r.1.length, zI k] [] H1 (zQI fun x H' => x = r.1.length ∧ (∀ a j : Int, a ≠ 51 → H' a j = H a j) ∧ ∀ j : Nat, j < r.1.length → H' 51 j = zgk r.1 j) := by
    intro c
    induction c with
    | zero =>
      intro k H1 hk hF hT
      exact x128_15 ho ⟨fun _ => ⟨rfl, hF, fun j hj => hT j (by omega)⟩, fun q => by omega⟩
    | succ c ih =>
      intro k H1 hk hF hT
      have v1 := zval (k := k) hok (by omega)
      refine x128_15 ho ⟨fun q => by omega, fun _ => ⟨by omega, ?_⟩⟩
      rw [hF (o + 1) k (by omega), hw.2.2.2 k (by omega), v1.1, c64 v1.2, zi1 (by omega)]
      refine ⟨by omega, ih (k + 1) _ (by omega) (fun a j q => by rw [zq_ne (fun z => q z.1)]; exact hF a j q) (fun j hj => ?_)⟩
      by_cases z : j = k
      · subst z; rw [zq_eq]; rfl
      · rw [zq_ne (by omega)]; exact hT j (by omega)
  have w1 := hw.1
  obtain ⟨x, H', ⟨ex, h1, h2⟩, e⟩ := zclI_ex (x128_0 (w := w) (d := d + 2) (H := H) (K := fun x H' => x = r.1.length ∧ (∀ a j : Int, a ≠ 51 → H' a j = H a j) ∧ ∀ j : Nat, j < r.1.length → H' 51 j = zgk r.1 j) ho (by
    rw [w1, if_neg (by omega)]
    exact L r.1.length 0 H (by omega) (fun _ _ _ => rfl) (fun j hj => by omega)))
  exact ⟨H', ⟨h1, h2⟩, fun K => by rw [e, ex]⟩
theorem zPgm_eq {vs : List Int} {k first : Nat} (hk : k < vs.length) (hf : first ≤ vs.length) (hT : ∀ j : Nat, j < vs.length → H 51 j = zgk vs j) : zcn (fun j => decide (H 51 j = H 51 k)) first 0 = zcn (zPgm vs k) first 0 := by
  refine zcn_congr (fun i _ h2 => ?_)
  show decide (H 51 i = H 51 k) = decide (zgk vs i = zgk vs k)
  rw [hT i (by omega), hT k hk]
/-- what is so of the most so far -/
def zgInv (vs : List Int) (k u mo : Nat) (be : Int) : Prop := (∀ j, j < k → ¬ zgk vs j = 0 → zcn (zPgm vs j) vs.length 0 < mo ∨ (zcn (zPgm vs j) vs.length 0 = mo ∧ be ≤ zgk vs j)) ∧ (u = 0 ↔ mo = 0)
theorem zgm_pos {vs : List Int} {k : Nat} (hk : k < vs.length) : 0 < zcn (zPgm vs k) vs.length 0 := zcn_pos (i := k) (by omega) (by omega) (decide_eq_true rfl)
theorem b127l {H0 : zHt} {t : Int} {vs : List Int} {A : Int × Int} (hl : vs.length ≤ 101) (ht : 0 ≤ t ∧ t ≤ 2) (hF : zcf H0 H) (hT : ∀ j : Nat, j < vs.length → H 51 j = zgk vs j) : ∀ (c k u mo : Nat) (be : Int), k + c = vs.length → u + c ≤ 300 → zgInv vs k u mo be → zgu vs t c k u mo be = A → zgo w (d + 1) 127 50 [zR 32, zJ, zI t, zI vs.length, zI u, zI mo, zI be, zI k, zJ] [] H (zQI (zPC H0 A)) := by
  intro c
  induction c with
  | zero =>
    intro k u mo be hk hu hI hA
    have hA : (if t = 0 then (0, (u : Int)) else if u = 0 then ((5 : Int), (-1 : Int)) else (0, if t = 1 then be else (mo : Int))) = A := hA
    have hI2 := hI.2
    refine x127_50 ⟨fun _ => ⟨fun q => ⟨fun q2 => ⟨fun q3 => ?_, fun q3 => ?_⟩, fun q2 => ?_⟩, fun q => ?_⟩, fun q => by omega⟩
    · rw [if_neg q, if_neg (by omega), if_neg q3] at hA; exact zPC_d hF hA.symm
    · rw [if_neg q, if_neg (by omega), if_pos q3] at hA; exact zPC_d hF hA.symm
    · rw [if_neg q, if_pos (by omega)] at hA; exact zPC_r hF hA.symm
    · rw [if_pos q] at hA; exact zPC_d hF hA.symm
  | succ c ih =>
    intro k u mo be hk hu hI hA
    unfold zgu at hA
    have hp := zgm_pos (vs := vs) (k := k) (by omega)
    have hpl := zcn_le (P := zPgm vs k) (c := vs.length) (m := 0)
    refine x127_50 ⟨fun q => by omega, fun _ => ⟨by omega, fun q => ?_, fun q => ?_⟩⟩
    · rw [hT k (by omega)] at q
      rw [if_neg q] at hA
      have fin : ∀ (s : Nat), s ≤ 1 → (s = 1 ↔ zcn (zPgm vs k) k 0 = 0) → zgo w (d + 1) 127 87 [zR 32, zJ, zI t, zI vs.length, zJ, zI mo, zI be, zI k, zJ] [zI s, zI u] H (zQI (zPC H0 A)) := fun s hs his => by
        refine x127_87 ?_
        rw [c129 (by omega) (by omega), zPgm_eq (by omega) (Nat.le_refl _) hT, hT k (by omega), zi1 (by omega), show w32 ((u : Int) + (s : Int)) = ((u + s : Nat) : Int) by rw [w32_id (by omega)]; omega]
        by_cases hh : zcn (zPgm vs k) k 0 = 0
        · have hs1 : s = 1 := his.mpr hh
          subst hs1
          rw [if_neg (fun z => z hh)] at hA
          have up : (mo < zcn (zPgm vs k) vs.length 0 ∨ (zcn (zPgm vs k) vs.length 0 = mo ∧ zgk vs k < be)) → zgo w (d + 1) 127 50 [zR 32, zJ, zI t, zI vs.length, zI ((u + 1 : Nat) : Int), zI (zcn (zPgm vs k) vs.length 0), zI (zgk vs k), zI ((k + 1 : Nat) : Int), zJ] [] H (zQI (zPC H0 A)) := fun z => by
            rw [if_pos z] at hA
            refine ih (k + 1) (u + 1) _ _ (by omega) (by omega) ⟨fun j hj g0 => ?_, by omega⟩ hA
            by_cases y : j = k
            · subst y; exact Or.inr ⟨rfl, Int.le_refl _⟩
            · have := hI.1 j (by omega) g0
              omega
          have no : ¬ (mo < zcn (zPgm vs k) vs.length 0 ∨ (zcn (zPgm vs k) vs.length 0 = mo ∧ zgk vs k < be)) → zgo w (d + 1) 127 50 [zR 32, zJ, zI t, zI vs.length, zI ((u + 1 : Nat) : Int), zI mo, zI be, zI ((k + 1 : Nat) : Int), zJ] [] H (zQI (zPC H0 A)) := fun z => by
            rw [if_neg z] at hA
            refine ih (k + 1) (u + 1) mo be (by omega) (by omega) ⟨fun j hj g0 => ?_, by omega⟩ hA
            by_cases y : j = k
            · subst y; omega
            · exact hI.1 j (by omega) g0
          exact ⟨fun z => ⟨by omega, up (by omega)⟩, fun z => ⟨fun z2 => no (by omega), fun z2 => ⟨by omega, fun z3 => no (by omega), fun z3 => up (by omega)⟩⟩⟩
        · have hs0 : s = 0 := by
            rcases Nat.eq_zero_or_pos s with y | y
            · exact y
            · exact absurd (his.mp (by omega)) hh
          subst hs0
          rw [if_pos hh] at hA
          obtain ⟨j, -, j2, j3⟩ := zcn_ex (Nat.pos_of_ne_zero hh)
          have j3 : zgk vs j = zgk vs k := of_decide_eq_true j3
          have ej : zcn (zPgm vs j) vs.length 0 = zcn (zPgm vs k) vs.length 0 := zcn_congr (fun i _ _ => by show decide (zgk vs i = zgk vs j) = decide (zgk vs i = zgk vs k); rw [j3])
          have hi := hI.1 j (by omega) (by rw [j3]; exact q)
          rw [ej, j3] at hi
          have no : zgo w (d + 1) 127 50 [zR 32, zJ, zI t, zI vs.length, zI ((u + 0 : Nat) : Int), zI mo, zI be, zI ((k + 1 : Nat) : Int), zJ] [] H (zQI (zPC H0 A)) := by
            refine ih (k + 1) u mo be (by omega) (by omega) ⟨fun i hj g0 => ?_, hI.2⟩ hA
            by_cases y : i = k
            · subst y; exact hi
            · exact hI.1 i (by omega) g0
          exact ⟨fun z => by omega, fun z => ⟨fun z2 => no, fun z2 => ⟨by omega, fun z3 => no, fun z3 => by omega⟩⟩⟩
      rw [c129 (by omega) (by omega), zPgm_eq (by omega) (by omega) hT]
      exact ⟨fun z => fin 0 (by omega) ⟨fun y => by omega, fun y => by omega⟩, fun z => fin 1 (by omega) ⟨fun y => by omega, fun _ => rfl⟩⟩
    · rw [hT k (by omega)] at q
      rw [if_pos q] at hA
      rw [zi1 (by omega)]
      refine ih (k + 1) u mo be (by omega) (by omega) ⟨fun j hj g0 => ?_, hI.2⟩ hA
      by_cases y : j = k
      · subst y; exact absurd q g0
      · exact hI.1 j (by omega) g0
theorem b127 {r t : Int} (hMR : zMR) (hD : zDk H) (hW : zWlk H) : zclI w (d + 6) 127 [zR 32, zI r, zI t] H (zPC H (zAr H (decide (0 ≤ t ∧ t ≤ 2)) r (zfgu t))) := by
  have h6 := hD.2.2.2.2.2.1
  unfold zAr
  refine x127_0 ?_
  simp only [c44, c106 h6.2, zit0, Classical.not_not]
  refine ⟨fun hg => ⟨fun hr => zwalk hMR hD hW hr (fun o H1 ho _ hF hw => ?_), fun hr => ?_⟩, fun hg => ?_⟩
  · rw [if_pos (decide_eq_true hg), if_pos hr]
    have ok := zRW_ok hMR hD hr
    obtain ⟨H2, ⟨f2, hT⟩, e2⟩ := c128 (w := w) (d := d + 2) ho ok hw
    have k2 := ok.2.1
    rw [e2]
    exact b127l (d := d + 5) k2 hg (zcf_tr hF (zcf_51 f2)) hT (zRW H r).1.length 0 0 0 0 (by omega) (by omega) ⟨fun j hj => by omega, by omega⟩ rfl
  · rw [if_pos (decide_eq_true hg), if_neg hr]; exact zPC_r zcf_rfl rfl
  · rw [decide_eq_false hg, if_neg (by decide)]; exact zPC_r zcf_rfl rfl
-- by the model
theorem c241 {vs : List Int} {k : Nat} {K : Int → zHt → Prop} (hl : vs.length ≤ 101) (hk : k < vs.length) (hT : ∀ j : Nat, j < vs.length → H 96 j = zgk vs j) : zclI w d 241 [zR 81, zI k] H K = K (if zcn (zPgm vs k) k 0 = 0 then 0 else 1) H := by
  have L : ∀ (c j : Nat) (K : Int → zHt → Prop), j + c = k → K (if zcn (zPgm vs k) c j = 0 then 0 else 1) H → zgo w d 241 2 [zR 81, zI k, zI j] [] H (zQI K) := by
    intro c
    induction c with
    | zero => exact fun j K h1 h => x241_2 ⟨fun _ => h, fun q => by omega⟩
    | succ c ih =>
      intro j K h1 h
      refine x241_2 ⟨fun q => by omega, fun _ => ⟨by omega, by omega, ?_⟩⟩
      rw [hT j (by omega), hT k hk, zi1 (by omega)]
      refine ⟨fun q => ?_, fun q => ?_⟩
      · rw [zcn_f (decide_eq_false q)] at h
        exact ih (j + 1) K (by omega) h
      · rw [zcn_t (decide_eq_true q), if_neg (by omega)] at h
        exact h
  exact zclI_eq fun K h => x241_0 (L k 0 K (by omega) h)
theorem c242 {vs : List Int} {k : Nat} {K : Int → zHt → Prop} (hl : vs.length ≤ 101) (h1 : H 81 21 = vs.length) (hT : ∀ j : Nat, j < vs.length → H 96 j = zgk vs j) : zclI w d 242 [zR 81, zI (zgk vs k)] H K = K (zcn (zPgm vs k) vs.length 0 : Int) H := by
  have L : ∀ (c j f : Nat) (K : Int → zHt → Prop), j + c = vs.length → f + c ≤ 300 → K ((f + zcn (zPgm vs k) c j : Nat) : Int) H → zgo w d 242 4 [zR 81, zI (zgk vs k), zI f, zI j] [] H (zQI K) := by
    intro c
    induction c with
    | zero => exact fun j f K h1 h2 h => x242_4 ⟨fun _ => h, fun q => by omega⟩
    | succ c ih =>
      intro j f K hj h2 h
      refine x242_4 ⟨fun q => by omega, fun _ => ⟨by omega, ?_⟩⟩
      rw [hT j (by omega), zi0 (by omega), zi1 (by omega), zi1 (by omega)]
      refine ⟨fun q => ?_, fun q => ?_⟩
      · rw [zcn_f (decide_eq_false q)] at h
        exact ih (j + 1) f K (by omega) (by omega) h
      · rw [zcn_t (decide_eq_true q)] at h
        exact ih (j + 1) (f + 1) K (by omega) (by omega) (by rw [show f + 1 + zcn (zPgm vs k) c (j + 1) = f + (zcn (zPgm vs k) c (j + 1) + 1) by omega]; exact h)
  exact zclI_eq fun K h => x242_0 (L vs.length 0 0 K (by omega) (by omega) (by rw [Nat.zero_add]; exact h))
theorem b240l {H0 : zHt} {t : Int} {vs : List Int} {A : Int × Int} (hl : vs.length ≤ 101) (ht : 0 ≤ t ∧ t ≤ 2) (hF : zmf H0 H) (hs : H 81 0 = 0) (h1 : H 81 21 = vs.length) (hT : ∀ j : Nat, j < vs.length → H 96 j = zgk vs j) : ∀ (c k u mo : Nat) (be : Int), k + c = vs.length → u + c ≤ 300 → zgu vs t c k u mo be = A → zgo w (d + 1) 240 57 [zR 81, zJ, zI t, zI u, zI mo, zI be, zI k, zJ, zJ] [] H (zQI (zPM H0 A)) := by
  intro c
  induction c with
  | zero =>
    intro k u mo be hk hu hA
    have hA : (if t = 0 then (0, (u : Int)) else if u = 0 then ((5 : Int), (-1 : Int)) else (0, if t = 1 then be else (mo : Int))) = A := hA
    refine x240_57 ⟨fun _ => ⟨fun q => ⟨fun q2 => ⟨fun q3 => ?_, fun q3 => ?_⟩, fun q2 => ?_⟩, fun q => ?_⟩, fun q => by omega⟩
    · rw [if_neg q, if_neg (by omega), if_neg q3] at hA; exact zPM_0 hF hs hA.symm
    · rw [if_neg q, if_neg (by omega), if_pos q3] at hA; exact zPM_0 hF hs hA.symm
    · rw [if_neg q, if_pos (by omega)] at hA; exact zPM_r hF hA.symm
    · rw [if_pos q] at hA; exact zPM_0 hF hs hA.symm
  | succ c ih =>
    intro k u mo be hk hu hA
    unfold zgu at hA
    have hpl := zcn_le (P := zPgm vs k) (c := vs.length) (m := 0)
    refine x240_57 ⟨fun q => by omega, fun _ => ⟨by omega, ?_⟩⟩
    rw [hT k (by omega), zi1 (by omega), zi1 (by omega)]
    refine ⟨fun q => ?_, fun q => ?_⟩
    · rw [if_pos q] at hA
      exact ih (k + 1) u mo be (by omega) (by omega) hA
    · rw [if_neg q] at hA
      rw [c241 hl (by omega) hT]
      by_cases hh : zcn (zPgm vs k) k 0 = 0
      · rw [if_neg (fun z => z hh)] at hA
        rw [if_pos hh]
        refine ⟨fun _ => ?_, fun z => absurd rfl z⟩
        rw [c242 hl h1 hT]
        have up : (mo < zcn (zPgm vs k) vs.length 0 ∨ (zcn (zPgm vs k) vs.length 0 = mo ∧ zgk vs k ≤ be)) → zgo w (d + 1) 240 57 [zR 81, zJ, zI t, zI ((u + 1 : Nat) : Int), zI (zcn (zPgm vs k) vs.length 0), zI (zgk vs k), zI ((k + 1 : Nat) : Int), zJ, zJ] [] H (zQI (zPM H0 A)) := fun z => by
          by_cases y : mo < zcn (zPgm vs k) vs.length 0 ∨ (zcn (zPgm vs k) vs.length 0 = mo ∧ zgk vs k < be)
          · rw [if_pos y] at hA
            exact ih (k + 1) (u + 1) _ _ (by omega) (by omega) hA
          · rw [if_neg y] at hA
            have e1 : zcn (zPgm vs k) vs.length 0 = mo := by omega
            have e2 : zgk vs k = be := by omega
            rw [e1, e2]
            exact ih (k + 1) (u + 1) _ _ (by omega) (by omega) hA
        have no : ¬ (mo < zcn (zPgm vs k) vs.length 0 ∨ (zcn (zPgm vs k) vs.length 0 = mo ∧ zgk vs k < be)) → zgo w (d + 1) 240 57 [zR 81, zJ, zI t, zI ((u + 1 : Nat) : Int), zI mo, zI be, zI ((k + 1 : Nat) : Int), zJ, zJ] [] H (zQI (zPM H0 A)) := fun z => by
          rw [if_neg z] at hA
          exact ih (k + 1) (u + 1) mo be (by omega) (by omega) hA
        exact ⟨fun z => no (by omega), fun z => ⟨fun z2 => up (by omega), fun z2 => ⟨fun z3 => up (by omega), fun z3 => no (by omega)⟩⟩⟩
      · rw [if_pos hh] at hA
        rw [if_neg hh]
        exact ⟨fun z => absurd z (by decide), fun _ => ih (k + 1) u mo be (by omega) (by omega) hA⟩
theorem b240f {H0 : zHt} {t : Int} {r : List Int × Int × Int} {A : Int × Int} (hok : zRowOk r) (ht : 0 ≤ t ∧ t ≤ 2) (hA : zfgu t r = A) : ∀ (c k : Nat) (H : zHt), k + c = r.1.length → zmf H0 H → H 81 0 = 0 → zMrow H r → (∀ j : Nat, j < k → H 96 j = zgk r.1 j) → zgo w (d + 3) 240 21 [zR 81, zJ, zI t, zI k, zJ, zJ, zJ, zJ, zJ] [] H (zQI (zPM H0 A)) := by
  have k2 := hok.2.1
  intro c
  induction c with
  | zero =>
    intro k H hk hF hs hm hT
    have w1 := hm.1
    exact x240_21 ⟨fun _ => b240l (d := d + 2) k2 ht hF hs hm.1 (fun j hj => hT j (by omega)) r.1.length 0 0 0 0 (by omega) (by omega) hA, fun q => by omega⟩
  | succ c ih =>
    intro k H hk hF hs hm hT
    have w1 := hm.1
    obtain ⟨H1, ⟨f1, -⟩, e1⟩ := c238 (w := w) (d := d) (k := k) hok (by omega) hm
    have hm1 := zMrow_fg hm f1
    refine x240_21 ⟨fun q => by omega, fun _ => ?_⟩
    rw [e1, zi1 (by omega)]
    refine ⟨by omega, ih (k + 1) _ (by omega) (zmf_up (zmf_fg hF f1) rfl (by omega)) ?_ ⟨?_, ?_, ?_, ?_⟩ (fun j hj => ?_)⟩
    · rw [zq_ne (by omega)]; exact zfg_0 f1 hs
    · rw [zq_ne (by omega)]; exact hm1.1
    · rw [zq_ne (by omega)]; exact hm1.2.1
    · rw [zq_ne (by omega)]; exact hm1.2.2.1
    · exact zArr_eq (fun i _ => by rw [zq_ne (by omega)]) hm1.2.2.2
    · by_cases z : j = k
      · subst z; rw [zq_eq]
      · rw [zq_ne (by omega), f1 96 j (by decide) (by decide) (by omega)]; exact hT j (by omega)
theorem b240 {r t : Int} (hMR : zMR) (hD : zDk H) : zclI w (d + 6) 240 [zR 81, zI r, zI t] H (zPM H (zAr H (decide (0 ≤ t ∧ t ≤ 2)) r (zfgu t))) := by
  refine x240_0 ?_
  rw [c173]
  refine c225t (f := zfgu t) hMR hD (fun hg hr H1 hF hs hm e => ?_) (fun s h => ⟨fun q => absurd rfl q, fun _ => h⟩)
  rw [e]
  have ok := zRW_ok hMR hD hr
  exact ⟨fun _ => b240f (d := d + 3) ok hg rfl (zRW H r).1.length 0 H1 (by omega) hF hs hm (fun j hj => by omega), fun q => absurd q (by decide)⟩
end Z51
theorem l1445 {w : zWt} (hw : w.1 ≤ 3072) (hMR : zMR) : zLaw w (zKept zAllR) 1445 := fun H i hi hR K nx => x0_1445 (d := 1999) (by
  refine ⟨zidx hw hi (by decide) (by decide), zidx hw hi (by decide) (by decide), ?_⟩
  have r1 : r32 (zH0 w.2 0 (w32 ((i : Int) + 1))) := zv_r
  generalize zH0 w.2 0 (w32 ((i : Int) + 1)) = v1 at r1 ⊢
  have r2 : r32 (zH0 w.2 0 (w32 ((i : Int) + 2))) := zv_r
  generalize zH0 w.2 0 (w32 ((i : Int) + 2)) = v2 at r2 ⊢
  exact zcaseI (A := fun H => zAr H (decide (0 ≤ v2 ∧ v2 ≤ 2)) v1 (zfgu v2)) zAr_con hR (fun hD hW => b127 (d := 1993) hMR hD hW) (fun H1 hD => b240 (d := 1993) hMR hD) (fun x y H' hk e => nx H' hk))
