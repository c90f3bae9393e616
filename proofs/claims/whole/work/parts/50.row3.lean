/-! the cases kept, guides -/
noncomputable def zPgm (vs : List Int) (k j : Nat) : Bool := decide (zgk vs j = zgk vs k)
noncomputable def zgu (vs : List Int) (t : Int) : Nat → Nat → Nat → Nat → Int → Int × Int
  | 0, _, u, mo, be => if t = 0 then (0, (u : Int)) else if u = 0 then (5, -1) else (0, if t = 1 then be else (mo : Int))
  | c + 1, k, u, mo, be =>
    if zgk vs k = 0 then zgu vs t c (k + 1) u mo be
    else if ¬ zcn (zPgm vs k) k 0 = 0 then zgu vs t c (k + 1) u mo be
    else if mo < zcn (zPgm vs k) vs.length 0 ∨ (zcn (zPgm vs k) vs.length 0 = mo ∧ zgk vs k < be) then zgu vs t c (k + 1) (u + 1) (zcn (zPgm vs k) vs.length 0) (zgk vs k)
    else zgu vs t c (k + 1) (u + 1) mo be
noncomputable def zfgu (t : Int) (r : List Int × Int × Int) : Int × Int := zgu r.1 t r.1.length 0 0 0 0
theorem zcn_pos {P : Nat → Bool} : ∀ {c m i : Nat}, m ≤ i → i < m + c → P i = true → 0 < zcn P c m
  | 0, m, i, h1, h2, _ => by omega
  | c + 1, m, i, h1, h2, h3 => by
    cases h : P m with
    | true => rw [zcn_t h]; omega
    | false =>
      rw [zcn_f h]
      refine zcn_pos (i := i) ?_ (by omega) h3
      by_cases z : i = m
      · subst z; rw [h] at h3; cases h3
      · omega
theorem zcn_ex {P : Nat → Bool} : ∀ {c m : Nat}, 0 < zcn P c m → ∃ i, m ≤ i ∧ i < m + c ∧ P i = true
  | 0, m, h => by
    have : 0 < 0 := h
    omega
  | c + 1, m, h => by
    cases hp : P m with
    | true => exact ⟨m, Nat.le_refl _, by omega, hp⟩
    | false =>
      rw [zcn_f hp] at h
      obtain ⟨i, h1, h2, h3⟩ := zcn_ex h
      exact ⟨i, by omega, by omega, h3⟩
theorem zgk_0 {vs : List Int} {k : Nat} : 0 ≤ zgk vs k := zgde_0.1
theorem zgk_b {r : List Int × Int × Int} {k : Nat} (hok : zRowOk r) (hk : k < r.1.length) : zgk r.1 k ≤ 999999999 := by
  have hv := zval hok hk
  unfold zgk
  by_cases h : (r.1.getD k 0).toNat = 0 ∨ (r.1.getD k 0).toNat % 2 = 1
  · rw [zgde_0.2.mpr h]; decide
  · have hb := zgde_b (n := (r.1.getD k 0).toNat) (by omega)
    unfold zgde
    rw [if_neg h]; omega
section Z50
variable {w : zWt} {d : Nat} {H : zHt}
theorem zWalk_fc {H1 : zHt} {o : Int} {r : List Int × Int × Int} (ho : zisW o) (g : zfc H H1) (hw : zWalkIs H o r) : zWalkIs H1 o r := by
  have hob := zisW_b ho
  exact ⟨(g o 1 (by omega) (by omega) (by omega)).trans hw.1, (g o 2 (by omega) (by omega) (by omega)).trans hw.2.1, (g o 3 (by omega) (by omega) (by omega)).trans hw.2.2.1, zArr_eq (fun k _ => g (o + 1) k (by omega) (by omega) (by omega)) hw.2.2.2⟩
-- kept, by the class
theorem c123 {o : Int} {r : List Int × Int × Int} {K : Int → zHt → Prop} (ho : zisW o) (hok : zRowOk r) (hw : zWalkIs H o r) : zclI w (d + 3) 123 [zR o] H K = K (zcn (zPkp r.1) r.1.length 0 : Int) H := by
  obtain ⟨w1, w2, w3, w4⟩ := hw
  have k1 := hok.1
  have k2 := hok.2.1
  have L : ∀ (c k f : Nat) (K : Int → zHt → Prop), 1 ≤ k → k + c = r.1.length → f + c ≤ 200 → K ((f + zcn (zPkp r.1) c k : Nat) : Int) H → zgo w (d + 3) 123 4 [zR o, zI f, zI k, zJ] [] H (zQI K) := by
    intro c
    induction c with
    | zero => exact fun k f K h1 h2 h3 h => x123_4 ho ⟨fun _ => h, fun q => by omega⟩
    | succ c ih =>
      intro k f K h1 h2 h3 h
      have v1 := zval (k := k) hok (by omega)
      have v2 := zval (k := k - 1) hok (by omega)
      have e1 : w32 ((k : Int) - 1) = ((k - 1 : Nat) : Int) := by rw [w32_id (by omega)]; omega
      refine x123_4 ho ⟨fun q => by omega, fun _ => ⟨by omega, ?_⟩⟩
      rw [e1, w4 k (by omega), v1.1, c64 v1.2, zi0 (by omega), zi1 (by omega), zi1 (by omega)]
      rw [show zgde (r.1.getD k 0).toNat = zgk r.1 k from rfl]
      refine ⟨fun q => ?_, fun q => ⟨by omega, ?_⟩⟩
      · rw [zcn_f (decide_eq_false (fun z => z.2.1 q))] at h
        exact ih (k + 1) f K (by omega) (by omega) (by omega) h
      · rw [w4 (k - 1) (by omega), v2.1, c64 v2.2, show zgde (r.1.getD (k - 1) 0).toNat = zgk r.1 (k - 1) from rfl]
        refine ⟨fun q2 => ?_, fun q2 => ?_⟩
        · rw [zcn_f (decide_eq_false (fun z => q2 z.2.2))] at h
          exact ih (k + 1) f K (by omega) (by omega) (by omega) h
        · rw [zcn_t (decide_eq_true ⟨h1, q, q2⟩)] at h
          exact ih (k + 1) (f + 1) K (by omega) (by omega) (by omega) (by rw [show f + 1 + zcn (zPkp r.1) c (k + 1) = f + (zcn (zPkp r.1) c (k + 1) + 1) by omega]; exact h)
  refine zclI_eq fun K h => x123_0 ho (L (r.1.length - 1) 1 0 K (by omega) (by omega) (by omega) ?_)
  have e : zcn (zPkp r.1) r.1.length 0 = zcn (zPkp r.1) (r.1.length - 1) 1 := by
    have : r.1.length = (r.1.length - 1) + 1 := by omega
    rw [this, zcn_f (decide_eq_false (fun z => by have := z.1; omega)), ← this]
  rw [Nat.zero_add, ← e]; exact h
theorem c124 {o : Int} {r : List Int × Int × Int} (hMR : zMR) (ho : zisW o) (hok : zRowOk r) (hw : zWalkIs H o r) : ∃ H', zfc H H' ∧ ∀ K : Int → zHt → Prop, zclI w (d + 5) 124 [zR 32, zR o] H K = K (zcn (zPdr r.1) r.1.length 0 : Int) H' := by
  have k1 := hok.1
  have k2 := hok.2.1
  have L : ∀ (c k f : Nat) (H1 : zHt), zfc H H1 → k + c = r.1.length → f + c ≤ 200 → zgo w (d + 5) 124 4 [zR 32, zR o, zI f, zI k] [] H1 (zQI fun x H' => x = ((f + zcn (zPdr r.1) c k : Nat) : Int) ∧ zfc H H') := by
    intro c
    induction c with
    | zero =>
      intro k f H1 hF h2 h3
      have w1 := (zWalk_fc ho hF hw).1
      exact x124_4 ho ⟨fun _ => ⟨rfl, hF⟩, fun q => by omega⟩
    | succ c ih =>
      intro k f H1 hF h2 h3
      obtain ⟨w1, w2, w3, w4⟩ := zWalk_fc ho hF hw
      have v1 := zval (k := k) hok (by omega)
      obtain ⟨H2, g, e⟩ := c68 (w := w) (d := d) (H := H1) hMR v1.2
      have hF2 : zfc H H2 := fun a j q1 q2 q3 => (g a j q1 q2 q3).trans (hF a j q1 q2 q3)
      refine x124_4 ho ⟨fun q => by omega, fun _ => ⟨by omega, ?_⟩⟩
      rw [w4 k (by omega), v1.1, e, zi0 (by omega), zi1 (by omega), zi1 (by omega)]
      refine ⟨fun q => ?_, fun q => ?_⟩
      · rw [zcn_f (decide_eq_false (fun z => z q))]
        exact ih (k + 1) f H2 hF2 (by omega) (by omega)
      · rw [zcn_t (decide_eq_true q), show f + (zcn (zPdr r.1) c (k + 1) + 1) = f + 1 + zcn (zPdr r.1) c (k + 1) by omega]
        exact ih (k + 1) (f + 1) H2 hF2 (by omega) (by omega)
  obtain ⟨x, H', ⟨ex, hF⟩, e⟩ := zclI_ex (x124_0 ho (L r.1.length 0 0 H zfc_rfl (by omega) (by omega)))
  exact ⟨H', hF, fun K => by rw [e, ex, Nat.zero_add]⟩
theorem c125 {o : Int} {r : List Int × Int × Int} (hMR : zMR) (ho : zisW o) (hok : zRowOk r) (hw : zWalkIs H o r) : ∃ H', zfc H H' ∧ ∀ K : Int → zHt → Prop, zclI w (d + 5) 125 [zR 32, zR o] H K = K (zfd r.1 r.1.length 0) H' := by
  have k1 := hok.1
  have k2 := hok.2.1
  have L : ∀ (c k : Nat) (H1 : zHt), zfc H H1 → k + c = r.1.length → zgo w (d + 5) 125 2 [zR 32, zR o, zI k] [] H1 (zQI fun x H' => x = zfd r.1 c k ∧ zfc H H') := by
    intro c
    induction c with
    | zero =>
      intro k H1 hF h2
      have w1 := (zWalk_fc ho hF hw).1
      exact x125_2 ho ⟨fun _ => ⟨rfl, hF⟩, fun q => by omega⟩
    | succ c ih =>
      intro k H1 hF h2
      obtain ⟨w1, w2, w3, w4⟩ := zWalk_fc ho hF hw
      have v1 := zval (k := k) hok (by omega)
      obtain ⟨H2, g, e⟩ := c68 (w := w) (d := d) (H := H1) hMR v1.2
      have hF2 : zfc H H2 := fun a j q1 q2 q3 => (g a j q1 q2 q3).trans (hF a j q1 q2 q3)
      have ez : zfd r.1 (c + 1) k = (if zdrv (r.1.getD k 0).toNat = 0 then zfd r.1 c (k + 1) else (k : Int)) := rfl
      refine x125_2 ho ⟨fun q => by omega, fun _ => ⟨by omega, ?_⟩⟩
      rw [w4 k (by omega), v1.1, e, zi1 (by omega)]
      refine ⟨fun q => ?_, fun q => ?_⟩
      · rw [ez, if_pos q]
        exact ih (k + 1) H2 hF2 (by omega)
      · rw [ez, if_neg q]
        exact ⟨rfl, hF2⟩
  obtain ⟨x, H', ⟨ex, hF⟩, e⟩ := zclI_ex (x125_0 ho (L r.1.length 0 H zfc_rfl (by omega)))
  exact ⟨H', hF, fun K => by rw [e, ex]⟩
theorem c126 {o : Int} {r : List Int × Int × Int} {K : Int → zHt → Prop} (ho : zisW o) (hok : zRowOk r) (hw : zWalkIs H o r) : zclI w (d + 3) 126 [zR o] H K = K (zls r.1 r.1.length 0 0 0 0) H := by
  obtain ⟨w1, w2, w3, w4⟩ := hw
  have k1 := hok.1
  have k2 := hok.2.1
  have L : ∀ (c k lo sp : Nat) (la : Int) (K : Int → zHt → Prop), k + c = r.1.length → lo + c ≤ 200 → sp + c ≤ 200 → K (zls r.1 c k lo sp la) H → zgo w (d + 3) 126 9 [zR o, zI lo, zI sp, zI la, zI k, zJ] [] H (zQI K) := by
    intro c
    induction c with
    | zero => exact fun k lo sp la K h1 h2 h3 h => x126_9 ho ⟨fun _ => h, fun q => by omega⟩
    | succ c ih =>
      intro k lo sp la K h1 h2 h3 h
      have v1 := zval (k := k) hok (by omega)
      unfold zls at h
      refine x126_9 ho ⟨fun q => by omega, fun _ => ⟨by omega, ?_⟩⟩
      rw [w4 k (by omega), v1.1, c64 v1.2, zi1 (by omega), zi1 (by omega), show zgde (r.1.getD k 0).toNat = zgk r.1 k from rfl]
      have e1 : (if (lo : Int) < ((sp + 1 : Nat) : Int) then ((sp + 1 : Nat) : Int) else (lo : Int)) = ((if lo < sp + 1 then sp + 1 else lo : Nat) : Int) := by
        by_cases z : lo < sp + 1
        · rw [if_pos z, if_pos (by omega)]
        · rw [if_neg z, if_neg (by omega)]
      have e2 : (if (lo : Int) < 1 then 1 else (lo : Int)) = ((if lo < 1 then 1 else lo : Nat) : Int) := by
        by_cases z : lo < 1
        · rw [if_pos z, if_pos (by omega)]; rfl
        · rw [if_neg z, if_neg (by omega)]
      have e3 : (if (lo : Int) < 0 then 0 else (lo : Int)) = (lo : Int) := if_neg (by omega)
      rw [e1, e2, e3]
      refine ⟨fun q => ⟨fun q2 => ?_, fun q2 => ?_⟩, fun q => ?_⟩
      · rw [if_neg q, if_neg q2] at h
        exact ih (k + 1) _ 1 _ K (by omega) (by split <;> omega) (by omega) h
      · rw [if_neg q, if_pos q2] at h
        exact ih (k + 1) _ (sp + 1) _ K (by omega) (by split <;> omega) (by omega) h
      · rw [if_pos q] at h
        rw [q]
        exact ih (k + 1) lo 0 0 K (by omega) (by omega) (by omega) h
  exact zclI_eq fun K h => x126_0 ho (L r.1.length 0 0 0 0 K (by omega) (by omega) (by omega) h)
theorem b122 {r t : Int} (hMR : zMR) (hD : zDk H) (hW : zWlk H) : zclI w (d + 6) 122 [zR 32, zI r, zI t] H (zPC H (zAr H (decide (0 ≤ t ∧ t ≤ 3)) r (zfkp t))) := by
  have h6 := hD.2.2.2.2.2.1
  unfold zAr
  refine x122_0 ?_
  simp only [c44, c106 h6.2, zit0, Classical.not_not]
  refine ⟨fun hg => ⟨fun hr => zwalk hMR hD hW hr (fun o H1 ho _ hF hw => ?_), fun hr => ?_⟩, fun hg => ?_⟩
  · rw [if_pos (decide_eq_true hg), if_pos hr]
    have ok := zRW_ok hMR hD hr
    obtain ⟨H2, g2, e2⟩ := c124 (w := w) (d := d) hMR ho ok hw
    obtain ⟨H3, g3, e3⟩ := c125 (w := w) (d := d) hMR ho ok hw
    unfold zfkp
    rw [c126 (d := d + 2) ho ok hw, c123 (d := d + 2) ho ok hw, e2, e3]
    refine ⟨fun q => zPC_d hF (by rw [if_neg (by omega), if_neg (by omega), if_neg (by omega)]), fun q => zPC_d hF (by rw [if_pos q]), fun q => zPC_d (zcf_fc hF g2) (by rw [if_neg (by omega), if_pos q]), fun q => ⟨fun q2 => zPC_d (zcf_fc hF g3) (by rw [if_neg (by omega), if_neg (by omega), if_pos q, if_neg q2]), fun q2 => zPC_r (zcf_fc hF g3) (by rw [if_neg (by omega), if_neg (by omega), if_pos q, if_pos q2])⟩⟩
  · rw [if_pos (decide_eq_true hg), if_neg hr]; exact zPC_r zcf_rfl rfl
  · rw [decide_eq_false hg, if_neg (by decide)]; exact zPC_r zcf_rfl rfl
-- kept, by the model
theorem zfd_r {vs : List Int} : ∀ {c k : Nat}, zfd vs c k = -1 ∨ 0 ≤ zfd vs c k
  | 0, _ => Or.inl rfl
  | c + 1, k => by
    unfold zfd
    split
    · exact zfd_r
    · exact Or.inr (by omega)
theorem b237l {H0 : zHt} {t : Int} {r : List Int × Int × Int} {A : Int × Int} (hok : zRowOk r) (ht : 0 ≤ t ∧ t ≤ 3) : ∀ (c k sm dv lo sp : Nat) (fi la : Int) (H : zHt), k + c = r.1.length → sm + c ≤ 300 → dv + c ≤ 300 → lo + c ≤ 300 → sp + c ≤ 300 → (fi = -1 ∨ (0 ≤ fi ∧ fi ≤ 101)) → zmf H0 H → H 81 0 = 0 → zMrow H r → (k = 0 → la = 0) → (1 ≤ k → la = zgk r.1 (k - 1)) → (t = 0 → A = (0, ((sm + zcn (zPkp r.1) c k : Nat) : Int))) → (t = 1 → A = (0, ((dv + zcn (zPdr r.1) c k : Nat) : Int))) → (t = 2 → A = (if (if fi < 0 then zfd r.1 c k else fi) = -1 then (5, -1) else (0, if fi < 0 then zfd r.1 c k else fi))) → (t = 3 → A = (0, zls r.1 c k lo sp la)) → zgo w (d + 5) 237 39 [zR 81, zJ, zI t, zI sm, zI dv, zI fi, zI sp, zI lo, zI la, zI k, zJ, zJ, zJ] [] H (zQI (zPM H0 A)) := by
  have k2 := hok.2.1
  intro c
  induction c with
  | zero =>
    intro k sm dv lo sp fi la H hk h1 h2 h3 h4 hfi hF hs hm l0 l1 a0 a1 a2 a3
    have w1 := hm.1
    refine x237_39 ⟨fun _ => ⟨fun q => zPM_0 hF hs (a3 (by omega)), fun q => zPM_0 hF hs (a0 q), fun q => zPM_0 hF hs (a1 q), fun q => ⟨fun q2 => ?_, fun q2 => ?_⟩⟩, fun q => by omega⟩
    · have := a2 q
      have e : (if fi < 0 then zfd r.1 0 k else fi) = fi := if_neg (by omega)
      rw [e, if_neg (by omega)] at this
      exact zPM_0 hF hs this
    · have := a2 q
      have e : (if fi < 0 then zfd r.1 0 k else fi) = -1 := if_pos q2
      rw [e, if_pos rfl] at this
      exact zPM_r hF this
  | succ c ih =>
    intro k sm dv lo sp fi la H hk h1 h2 h3 h4 hfi hF hs hm l0 l1 a0 a1 a2 a3
    have w1 := hm.1
    have hgb := zgk_b hok (show k < r.1.length by omega)
    obtain ⟨H1, ⟨f1, -⟩, e1⟩ := c238 (w := w) (d := d + 2) (k := k) hok (by omega) hm
    have hF1 := zmf_fg hF f1
    have hs1 := zfg_0 f1 hs
    have hm1 := zMrow_fg hm f1
    have hgn := zgk_0 (vs := r.1) (k := k)
    have ez : zfd r.1 (c + 1) k = (if zdrv (r.1.getD k 0).toNat = 0 then zfd r.1 c (k + 1) else (k : Int)) := rfl
    unfold zls at a3
    -- the end of a step
    have B3 : ∀ (is sm' dv' : Nat) (fi' : Int) (H2 : zHt), (is = 1 ↔ (¬ zgk r.1 k = 0 ∧ zgk r.1 k = la)) → is ≤ 1 → sm' + c ≤ 300 → dv' + c ≤ 300 → (fi' = -1 ∨ (0 ≤ fi' ∧ fi' ≤ 101)) → zmf H0 H2 → H2 81 0 = 0 → zMrow H2 r → (t = 0 → A = (0, ((sm' + zcn (zPkp r.1) c (k + 1) : Nat) : Int))) → (t = 1 → A = (0, ((dv' + zcn (zPdr r.1) c (k + 1) : Nat) : Int))) → (t = 2 → A = (if (if fi' < 0 then zfd r.1 c (k + 1) else fi') = -1 then (5, -1) else (0, if fi' < 0 then zfd r.1 c (k + 1) else fi'))) → zgo w (d + 5) 237 146 [zR 81, zJ, zI t, zI sm', zI dv', zJ, zI sp, zI lo, zJ, zI k, zI (zgk r.1 k), zI is, zJ] [zI fi'] H2 (zQI (zPM H0 A)) := fun is sm' dv' fi' H2 his his1 b1 b2 b3 b4 b5 b6 c0 c1 c2 => by
      refine x237_146 ?_
      rw [zi1 (by omega), zi1 (by omega)]
      have nx : ∀ (lo' sp' : Nat), lo' + c ≤ 300 → sp' + c ≤ 300 → (t = 3 → A = (0, zls r.1 c (k + 1) lo' sp' (zgk r.1 k))) → zgo w (d + 5) 237 39 [zR 81, zJ, zI t, zI sm', zI dv', zI fi', zI sp', zI lo', zI (zgk r.1 k), zI ((k + 1 : Nat) : Int), zJ, zJ, zJ] [] H2 (zQI (zPM H0 A)) := fun lo' sp' y1 y2 y3 =>
        ih (k + 1) sm' dv' lo' sp' fi' (zgk r.1 k) H2 (by omega) b1 b2 y1 y2 b3 b4 b5 b6 (fun z => by omega) (fun _ => rfl) c0 c1 c2 y3
      refine ⟨fun g0 => ⟨fun i0 => ⟨fun q => ?_, fun q => ?_⟩, fun i0 => ⟨fun q => ?_, fun q => ?_⟩⟩, fun g0 => ⟨fun q => ?_, fun q => by omega⟩⟩
      · exact nx lo 1 (by omega) (by omega) (fun z => by rw [a3 z, if_neg g0, if_neg (fun y => by have := his.mpr ⟨g0, y⟩; omega), if_neg (by omega)])
      · exact nx 1 1 (by omega) (by omega) (fun z => by rw [a3 z, if_neg g0, if_neg (fun y => by have := his.mpr ⟨g0, y⟩; omega), if_pos (by omega)])
      · exact nx lo (sp + 1) (by omega) (by omega) (fun z => by rw [a3 z, if_neg g0, if_pos ((his.mp (by omega)).2), if_neg (by omega)])
      · exact nx (sp + 1) (sp + 1) (by omega) (by omega) (fun z => by rw [a3 z, if_neg g0, if_pos ((his.mp (by omega)).2), if_pos (by omega)])
      · exact nx lo 0 (by omega) (by omega) (fun z => by rw [a3 z, if_pos g0, g0])
    have hP0 : ∀ is : Nat, (is = 1 ↔ (¬ zgk r.1 k = 0 ∧ zgk r.1 k = la)) → is ≤ 1 → (t = 0 → A = (0, ((sm + is + zcn (zPkp r.1) c (k + 1) : Nat) : Int))) := fun is his h1' z => by
      by_cases y : is = 1
      · have := his.mp y
        have hk1 : 1 ≤ k := by
          rcases Nat.eq_zero_or_pos k with x | x
          · have := l0 x; omega
          · exact x
        rw [a0 z, zcn_t (decide_eq_true ⟨hk1, this.1, by rw [← l1 hk1]; exact this.2⟩), show sm + (zcn (zPkp r.1) c (k + 1) + 1) = sm + is + zcn (zPkp r.1) c (k + 1) by omega]
      · rw [a0 z, zcn_f (decide_eq_false (fun x => y (his.mpr ⟨x.2.1, by rw [l1 x.1]; exact x.2.2⟩))), show sm + zcn (zPkp r.1) c (k + 1) = sm + is + zcn (zPkp r.1) c (k + 1) by omega]
    have B2 : ∀ (is dd : Nat) (H2 : zHt), (is = 1 ↔ (¬ zgk r.1 k = 0 ∧ zgk r.1 k = la)) → is ≤ 1 → ((dd : Int) = zdrv (r.1.getD k 0).toNat) → dd ≤ 1 → zmf H0 H2 → H2 81 0 = 0 → zMrow H2 r → zgo w (d + 5) 237 112 [zR 81, zJ, zI t, zJ, zI dv, zI fi, zI sp, zI lo, zJ, zI k, zI (zgk r.1 k), zI is, zI dd] [zI is, zI sm] H2 (zQI (zPM H0 A)) := fun is dd H2 his his1 hdd hdd1 b4 b5 b6 => by
      refine x237_112 ?_
      rw [show w32 ((sm : Int) + (is : Int)) = ((sm + is : Nat) : Int) by rw [w32_id (by omega)]; omega, zi0 (by omega), zi1 (by omega)]
      refine ⟨fun q => ?_, fun q => ?_⟩
      · have hz : zdrv (r.1.getD k 0).toNat = 0 := by omega
        have p1 : t = 1 → A = (0, ((dv + zcn (zPdr r.1) c (k + 1) : Nat) : Int)) := fun z => by rw [a1 z, zcn_f (decide_eq_false (fun y => y hz))]
        have p2 : t = 2 → A = (if (if fi < 0 then zfd r.1 c (k + 1) else fi) = -1 then (5, -1) else (0, if fi < 0 then zfd r.1 c (k + 1) else fi)) := fun z => by
          rw [a2 z, ez, if_pos hz]
        refine ⟨fun q2 => B3 is (sm + is) dv fi H2 his his1 (by omega) (by omega) hfi b4 b5 b6 (hP0 is his his1) p1 p2, fun q2 => ⟨fun _ => B3 is (sm + is) dv fi H2 his his1 (by omega) (by omega) hfi b4 b5 b6 (hP0 is his his1) p1 p2, fun q3 => absurd q q3⟩⟩
      · have hz : ¬ zdrv (r.1.getD k 0).toNat = 0 := by omega
        have p1 : t = 1 → A = (0, ((dv + 1 + zcn (zPdr r.1) c (k + 1) : Nat) : Int)) := fun z => by
          rw [a1 z, zcn_t (decide_eq_true hz), show dv + (zcn (zPdr r.1) c (k + 1) + 1) = dv + 1 + zcn (zPdr r.1) c (k + 1) by omega]
        refine ⟨fun q2 => B3 is (sm + is) (dv + 1) fi H2 his his1 (by omega) (by omega) hfi b4 b5 b6 (hP0 is his his1) p1 (fun z => ?_), fun q2 => ⟨fun q3 => absurd q3 q, fun q3 => B3 is (sm + is) (dv + 1) k H2 his his1 (by omega) (by omega) (Or.inr (by omega)) b4 b5 b6 (hP0 is his his1) p1 (fun z => ?_)⟩⟩
        · rw [a2 z]
          simp only [if_neg (show ¬ fi < 0 by omega)]
        · rw [a2 z, ez, if_neg hz]
          simp only [if_pos q2, if_neg (show ¬ ((k : Int) < 0) by omega)]
    have B1 : ∀ (is : Nat), (is = 1 ↔ (¬ zgk r.1 k = 0 ∧ zgk r.1 k = la)) → is ≤ 1 → zgo w (d + 5) 237 73 [zR 81, zJ, zI t, zI sm, zI dv, zI fi, zI sp, zI lo, zJ, zI k, zI (zgk r.1 k), zJ, zJ] [zI is] H1 (zQI (zPM H0 A)) := fun is his his1 => by
      have B2' : ∀ (dd : Nat) (H2 : zHt), ((dd : Int) = zdrv (r.1.getD k 0).toNat) → dd ≤ 1 → zmf H0 H2 → H2 81 0 = 0 → zMrow H2 r → (((is : Int) = 0 → zgo w (d + 5) 237 112 [zR 81, zJ, zI t, zJ, zI dv, zI fi, zI sp, zI lo, zJ, zI k, zI (zgk r.1 k), zI is, zI dd] [zI 0, zI sm] H2 (zQI (zPM H0 A))) ∧ (¬ (is : Int) = 0 → zgo w (d + 5) 237 112 [zR 81, zJ, zI t, zJ, zI dv, zI fi, zI sp, zI lo, zJ, zI k, zI (zgk r.1 k), zI is, zI dd] [zI 1, zI sm] H2 (zQI (zPM H0 A)))) := fun dd H2 hdd hdd1 b4 b5 b6 => by
        have := B2 is dd H2 his his1 hdd hdd1 b4 b5 b6
        refine ⟨fun q => ?_, fun q => ?_⟩
        · rw [q] at this ⊢; exact this
        · have e : (is : Int) = 1 := by omega
          rw [e] at this ⊢; exact this
      refine x237_73 ⟨fun q => ?_, fun q => ⟨by omega, ?_⟩⟩
      · have gz : zgk r.1 k = 0 := by omega
        have gd : zdrv (r.1.getD k 0).toNat = 0 := zdrv_g gz
        exact B2' 0 H1 gd.symm (by omega) hF1 hs1 hm1
      · have v1 := zval (k := k) hok (by omega)
        have hne : ¬ ((r.1.getD k 0).toNat = 0 ∨ (r.1.getD k 0).toNat % 2 = 1) := fun z => by
          have : zgk r.1 k = 0 := zgde_0.2.mpr z
          omega
        obtain ⟨H2, f2, e2⟩ := c191 (w := w) (d := d + 1) (H := H1) (n := (r.1.getD k 0).toNat) (by omega) (by omega) v1.2
        rw [hm1.2.2.2 k (by omega), v1.1, e2]
        refine ⟨fun q2 => B2' 0 H2 (by rw [q2]; rfl) (by omega) (zmf_fg hF1 f2) (zfg_0 f2 hs1) (zMrow_fg hm1 f2), fun q2 => B2' 1 H2 ?_ (by omega) (zmf_fg hF1 f2) (zfg_0 f2 hs1) (zMrow_fg hm1 f2)⟩
        rcases zdrv_01 (n := (r.1.getD k 0).toNat) with y | y
        · exact absurd y q2
        · rw [y]; rfl
    refine x237_39 ⟨fun q => by omega, fun _ => ?_⟩
    rw [e1]
    refine ⟨fun q => B1 0 ⟨fun z => by omega, fun z => by have := z.1; omega⟩ (by omega), fun q => ⟨fun q2 => B1 0 ⟨fun z => by omega, fun z => absurd z.2 q2⟩ (by omega), fun q2 => B1 1 ⟨fun _ => ⟨by omega, q2⟩, fun _ => rfl⟩ (by omega)⟩⟩
theorem b237 {r t : Int} (hMR : zMR) (hD : zDk H) : zclI w (d + 6) 237 [zR 81, zI r, zI t] H (zPM H (zAr H (decide (0 ≤ t ∧ t ≤ 3)) r (zfkp t))) := by
  refine x237_0 ?_
  rw [c173]
  refine c225t (f := zfkp t) hMR hD (fun hg hr H1 hF hs hm e => ?_) (fun s h => ⟨fun q => absurd rfl q, fun _ => h⟩)
  rw [e]
  have ok := zRW_ok hMR hD hr
  have k2 := ok.2.1
  unfold zfkp
  refine ⟨fun _ => b237l (d := d + 1) ok hg (zRW H r).1.length 0 0 0 0 0 (-1) 0 H1 (by omega) (by omega) (by omega) (by omega) (by omega) (Or.inl rfl) hF hs hm (fun _ => rfl) (fun z => by omega) (fun z => by rw [if_pos z, Nat.zero_add]) (fun z => by rw [if_neg (by omega), if_pos z, Nat.zero_add]) (fun z => by
    rw [if_neg (by omega), if_neg (by omega), if_pos z]
    simp only [if_pos (show (-1 : Int) < 0 by decide)]) (fun z => by rw [if_neg (by omega), if_neg (by omega), if_neg (by omega)]), fun q => absurd q (by decide)⟩
end Z50
theorem l1412 {w : zWt} (hw : w.1 ≤ 3072) (hMR : zMR) : zLaw w (zKept zAllR) 1412 := fun H i hi hR K nx => x0_1412 (d := 1999) (by
  refine ⟨zidx hw hi (by decide) (by decide), zidx hw hi (by decide) (by decide), ?_⟩
  have r1 : r32 (zH0 w.2 0 (w32 ((i : Int) + 1))) := zv_r
  generalize zH0 w.2 0 (w32 ((i : Int) + 1)) = v1 at r1 ⊢
  have r2 : r32 (zH0 w.2 0 (w32 ((i : Int) + 2))) := zv_r
  generalize zH0 w.2 0 (w32 ((i : Int) + 2)) = v2 at r2 ⊢
  exact zcaseI (A := fun H => zAr H (decide (0 ≤ v2 ∧ v2 ≤ 3)) v1 (zfkp v2)) zAr_con hR (fun hD hW => b122 (d := 1993) hMR hD hW) (fun H1 hD => b237 (d := 1993) hMR hD) (fun x y H' hk e => nx H' hk))
