/-! the cases climb, lost, kept, guides -/
/-- from f on L values rise (within the first n) -/
def zinc (vs : List Int) (n f L : Nat) : Prop := 1 ≤ L ∧ f + L ≤ n ∧ ∀ i, f < i → i < f + L → vs.getD (i - 1) 0 < vs.getD i 0
theorem zcu_ok {vs : List Int} {f : Nat} : ∀ {c k : Nat}, f < k → k + c = vs.length → zinc vs vs.length f (k - f) → zinc vs vs.length f (zcu vs c k - f) ∧ f < zcu vs c k ∧ (zcu vs c k < vs.length → ¬ vs.getD (zcu vs c k - 1) 0 < vs.getD (zcu vs c k) 0)
  | 0, k, h1, h2, h3 => ⟨h3, h1, fun h => by have : k < vs.length := h; omega⟩
  | c + 1, k, h1, h2, h3 => by
    have e : zcu vs (c + 1) k = if vs.getD (k - 1) 0 < vs.getD k 0 then zcu vs c (k + 1) else k := rfl
    by_cases z : vs.getD (k - 1) 0 < vs.getD k 0
    · rw [e, if_pos z]
      refine zcu_ok (by omega) (by omega) ⟨by omega, by omega, fun i i1 i2 => ?_⟩
      by_cases y : i = k
      · subst y; exact z
      · exact h3.2.2 i i1 (by omega)
    · rw [e, if_neg z]
      exact ⟨h3, h1, fun _ => z⟩
theorem zcf1_ok {vs : List Int} {f : Nat} (h : f < vs.length) : zinc vs vs.length f (zcf1 vs f) ∧ ∀ L, zinc vs vs.length f L → L ≤ zcf1 vs f := by
  obtain ⟨h1, h2, h3⟩ := zcu_ok (vs := vs) (f := f) (c := vs.length - (f + 1)) (k := f + 1) (by omega) (by omega) ⟨by omega, by omega, fun i i1 i2 => by omega⟩
  refine ⟨h1, fun L hL => ?_⟩
  rcases Nat.lt_or_ge (zcf1 vs f) L with z | z
  · exfalso
    have e : zcf1 vs f = zcu vs (vs.length - (f + 1)) (f + 1) - f := rfl
    generalize zcu vs (vs.length - (f + 1)) (f + 1) = u at *
    obtain ⟨l1, l2, l3⟩ := hL
    exact h3 (by omega) (l3 u (by omega) (by omega))
  · exact z
/-- the longest climb, of several the first -/
def zbst (vs : List Int) (n m b : Nat) : Prop := zinc vs n b m ∧ (∀ f L, zinc vs n f L → L ≤ m) ∧ (∀ f L, f < b → zinc vs n f L → L < m)
theorem zbst_uniq {vs : List Int} {n m b m' b' : Nat} (h : zbst vs n m b) (h' : zbst vs n m' b') : m = m' ∧ b = b' := by
  have e : m = m' := Nat.le_antisymm (h'.2.1 _ _ h.1) (h.2.1 _ _ h'.1)
  subst e
  refine ⟨rfl, ?_⟩
  rcases Nat.lt_trichotomy b b' with z | z | z
  · have := h'.2.2 b m z h.1; omega
  · exact z
  · have := h.2.2 b' m z h'.1; omega
theorem zcb_ok {vs : List Int} : ∀ {c k b : Nat}, k + c = vs.length → b < k → (∀ f, f < k → zcf1 vs f ≤ zcf1 vs b) → (∀ f, f < b → zcf1 vs f < zcf1 vs b) → zbst vs vs.length (zcf1 vs (zcb vs c k b)) (zcb vs c k b)
  | 0, k, b, h1, h2, h3, h4 => by
    have hb : b < vs.length := by omega
    refine ⟨(zcf1_ok hb).1, fun f L hL => ?_, fun f L hf hL => ?_⟩
    · have hf : f < vs.length := by have := hL.1; have := hL.2.1; omega
      exact Nat.le_trans ((zcf1_ok hf).2 L hL) (h3 f (by omega))
    · have hf2 : f < vs.length := by have := hL.1; have := hL.2.1; omega
      exact Nat.lt_of_le_of_lt ((zcf1_ok hf2).2 L hL) (h4 f hf)
  | c + 1, k, b, h1, h2, h3, h4 => by
    have e : zcb vs (c + 1) k b = zcb vs c (k + 1) (if zcf1 vs b < zcf1 vs k then k else b) := rfl
    rw [e]
    by_cases z : zcf1 vs b < zcf1 vs k
    · rw [if_pos z]
      refine zcb_ok (by omega) (by omega) (fun f hf => ?_) (fun f hf => ?_)
      · by_cases y : f = k
        · subst y; exact Nat.le_refl _
        · have := h3 f (by omega); omega
      · have := h3 f (by omega); omega
    · rw [if_neg z]
      refine zcb_ok (by omega) (by omega) (fun f hf => ?_) h4
      by_cases y : f = k
      · subst y; omega
      · exact h3 f (by omega)
/-- what the model knows of the first k values -/
def zclI2 (vs : List Int) (k m b fr : Nat) : Prop := k = 0 ∧ m = 0 ∧ b = 0 ∧ fr = 0 ∨ 1 ≤ k ∧ zbst vs k m b ∧ zinc vs k fr (k - fr) ∧ fr < k ∧ ∀ f, f < k → zinc vs k f (k - f) → fr ≤ f
theorem zinc_mono {vs : List Int} {n n' f L : Nat} (h : zinc vs n f L) (hn : n ≤ n') : zinc vs n' f L := ⟨h.1, Nat.le_trans h.2.1 hn, h.2.2⟩
theorem zinc_back {vs : List Int} {n f L : Nat} (h : zinc vs (n + 1) f L) (hL : f + L ≤ n) : zinc vs n f L := ⟨h.1, hL, h.2.2⟩
theorem zclI2_step {vs : List Int} {k m b fr : Nat} (h : zclI2 vs k m b fr) : ∀ fr', fr' = (if 0 < k ∧ vs.getD (k - 1) 0 < vs.getD k 0 then fr else k) → zclI2 vs (k + 1) (if m < k - fr' + 1 then k - fr' + 1 else m) (if m < k - fr' + 1 then fr' else b) fr' := by
  intro fr' hfr
  have one : zinc vs (k + 1) k 1 := ⟨Nat.le_refl _, by omega, fun i i1 i2 => by omega⟩
  rcases h with ⟨rfl, rfl, rfl, rfl⟩ | ⟨k1, hb, hi, hfk, hf⟩
  · rw [if_neg (by omega)] at hfr
    subst hfr
    refine Or.inr ⟨by omega, ⟨one, fun f L hL => ?_, fun f L hf hL => by simp at hf⟩, one, by omega, fun f _ _ => Nat.zero_le _⟩
    have := hL.2.1
    show L ≤ 1
    omega
  · have reach : ∀ f L, zinc vs (k + 1) f L → f + L = k + 1 → fr' ≤ f := fun f L hL e => by
      by_cases c : 0 < k ∧ vs.getD (k - 1) 0 < vs.getD k 0
      · rw [if_pos c] at hfr
        subst hfr
        by_cases y : f = k
        · omega
        · have h1 := hL.1
          exact hf f (by omega) ⟨by omega, by omega, fun i i1 i2 => hL.2.2 i i1 (by omega)⟩
      · rw [if_neg c] at hfr
        subst hfr
        rcases Nat.lt_or_ge f fr' with y | y
        · exact absurd ⟨by omega, hL.2.2 fr' y (by omega)⟩ c
        · exact y
    have hfr2 : fr' ≤ k ∧ zinc vs (k + 1) fr' (k + 1 - fr') := by
      by_cases c : 0 < k ∧ vs.getD (k - 1) 0 < vs.getD k 0
      · rw [if_pos c] at hfr
        subst hfr
        refine ⟨by omega, by omega, by omega, fun i i1 i2 => ?_⟩
        by_cases y : i = k
        · subst y; exact c.2
        · exact hi.2.2 i i1 (by omega)
      · rw [if_neg c] at hfr
        subst hfr
        exact ⟨Nat.le_refl _, by rw [show fr' + 1 - fr' = 1 by omega]; exact one⟩
    have hbf : b ≤ fr := by
      rcases Nat.lt_or_ge fr b with y | y
      · have h1 := hb.2.2 fr (k - fr) y hi
        have h2 := hb.1.2.1
        omega
      · exact y
    have hfr3 : fr ≤ fr' := by rw [hfr]; split <;> omega
    refine Or.inr ⟨by omega, ?_, hfr2.2, by omega, fun f f1 f2 => reach f _ f2 (by omega)⟩
    by_cases c : m < k - fr' + 1
    · rw [if_pos c, if_pos c]
      refine ⟨by rw [show k - fr' + 1 = k + 1 - fr' by omega]; exact hfr2.2, fun f L hL => ?_, fun f L hf2 hL => ?_⟩
      · by_cases y : f + L = k + 1
        · have := reach f L hL y; omega
        · have := hb.2.1 f L (zinc_back hL (by have := hL.2.1; omega)); omega
      · by_cases y : f + L = k + 1
        · have := reach f L hL y; omega
        · have := hb.2.1 f L (zinc_back hL (by have := hL.2.1; omega)); omega
    · rw [if_neg c, if_neg c]
      refine ⟨zinc_mono hb.1 (by omega), fun f L hL => ?_, fun f L hf2 hL => ?_⟩
      · by_cases y : f + L = k + 1
        · have := reach f L hL y; omega
        · exact hb.2.1 f L (zinc_back hL (by have := hL.2.1; omega))
      · by_cases y : f + L = k + 1
        · have := reach f L hL y; omega
        · exact hb.2.2 f L hf2 (zinc_back hL (by have := hL.2.1; omega))
noncomputable def zfls (k : Int) (r : List Int × Int × Int) : Int × Int := if k < r.1.length then (0, if zgde (r.1.getD k.toNat 0).toNat = 0 then 0 else if zgde (r.1.getD (k - 1).toNat 0).toNat = 0 then 0 else if zgde (r.1.getD k.toNat 0).toNat = zgde (r.1.getD (k - 1).toNat 0).toNat then 0 else if zta (r.1.getD k.toNat 0).toNat = zta (r.1.getD (k - 1).toNat 0).toNat then 2 else 1) else (5, -1)
-- kept
noncomputable def zgk (vs : List Int) (k : Nat) : Int := zgde (vs.getD k 0).toNat
noncomputable def zPkp (vs : List Int) (k : Nat) : Bool := decide (1 ≤ k ∧ ¬ zgk vs k = 0 ∧ zgk vs k = zgk vs (k - 1))
noncomputable def zPdr (vs : List Int) (k : Nat) : Bool := decide (¬ zdrv (vs.getD k 0).toNat = 0)
noncomputable def zfd (vs : List Int) : Nat → Nat → Int
  | 0, _ => -1
  | c + 1, k => if zdrv (vs.getD k 0).toNat = 0 then zfd vs c (k + 1) else (k : Int)
noncomputable def zls (vs : List Int) : Nat → Nat → Nat → Nat → Int → Int
  | 0, _, lo, _, _ => (lo : Int)
  | c + 1, k, lo, sp, la =>
    if zgk vs k = 0 then zls vs c (k + 1) lo 0 0
    else if zgk vs k = la then zls vs c (k + 1) (if lo < sp + 1 then sp + 1 else lo) (sp + 1) (zgk vs k)
    else zls vs c (k + 1) (if lo < 1 then 1 else lo) 1 (zgk vs k)
noncomputable def zfkp (t : Int) (r : List Int × Int × Int) : Int × Int := if t = 0 then (0, (zcn (zPkp r.1) r.1.length 0 : Int)) else if t = 1 then (0, (zcn (zPdr r.1) r.1.length 0 : Int)) else if t = 2 then (if zfd r.1 r.1.length 0 = -1 then (5, -1) else (0, zfd r.1 r.1.length 0)) else (0, zls r.1 r.1.length 0 0 0 0)
theorem zgde_0 {n : Nat} : 0 ≤ zgde n ∧ (zgde n = 0 ↔ (n = 0 ∨ n % 2 = 1)) := by
  unfold zgde
  by_cases h : n = 0 ∨ n % 2 = 1
  · rw [if_pos h]; exact ⟨Int.le_refl _, fun _ => h, fun _ => rfl⟩
  · rw [if_neg h]
    have hb := zgde_b (n := n) (by omega)
    have hpos : 0 < 2 ^ zta n * zog (zta n) n := Nat.mul_pos hb.2.2.2.2 hb.1
    exact ⟨by omega, fun q => by omega, fun q => absurd q h⟩
theorem zdrv_g {n : Nat} (h : zgde n = 0) : zdrv n = 0 := by
  unfold zdrv
  rw [if_pos (zgde_0.2.mp h)]
section Z49
variable {w : zWt} {d : Nat} {H : zHt}
-- climb
theorem c119 {o : Int} {r : List Int × Int × Int} {f : Nat} {K : Int → zHt → Prop} (ho : zisW o) (hok : zRowOk r) (hw : zWalkIs H o r) (hf : f < r.1.length) : zclI w d 119 [zR o, zI f] H K = K (zcf1 r.1 f : Int) H := by
  obtain ⟨w1, w2, w3, w4⟩ := hw
  have k2 := hok.2.1
  have L : ∀ (c k : Nat) (K : Int → zHt → Prop), f < k → k + c = r.1.length → K ((zcu r.1 c k - f : Nat) : Int) H → zgo w d 119 4 [zR o, zI f, zI k] [] H (zQI K) := by
    intro c
    induction c with
    | zero =>
      intro k K h1 h2 h
      have h : K ((k - f : Nat) : Int) H := h
      refine x119_4 ho ⟨fun _ => ?_, fun q => by omega⟩
      rw [show w32 ((k : Int) - (f : Int)) = ((k - f : Nat) : Int) by rw [w32_id (by omega)]; omega]
      exact h
    | succ c ih =>
      intro k K h1 h2 h
      have h : K (((if r.1.getD (k - 1) 0 < r.1.getD k 0 then zcu r.1 c (k + 1) else k) - f : Nat) : Int) H := h
      have e1 : w32 ((k : Int) - 1) = ((k - 1 : Nat) : Int) := by rw [w32_id (by omega)]; omega
      refine x119_4 ho ⟨fun q => by omega, fun _ => ?_⟩
      rw [e1, w4 k (by omega), w4 (k - 1) (by omega), zi1 (by omega), show w32 ((k : Int) - (f : Int)) = ((k - f : Nat) : Int) by rw [w32_id (by omega)]; omega]
      refine ⟨by omega, by omega, fun q => ?_, fun q => ?_⟩
      · rw [if_neg (by omega)] at h; exact h
      · rw [if_pos q] at h; exact ih (k + 1) K (by omega) (by omega) h
  refine zclI_eq fun K h => x119_0 ho ?_
  rw [zi1 (by omega)]
  exact L (r.1.length - (f + 1)) (f + 1) K (by omega) (by omega) h
theorem c118 {o : Int} {r : List Int × Int × Int} {K : Int → zHt → Prop} (ho : zisW o) (hok : zRowOk r) (hw : zWalkIs H o r) : zclI w (d + 1) 118 [zR o] H K = K (zcb r.1 (r.1.length - 1) 1 0 : Int) H := by
  have k1 := hok.1
  have k2 := hok.2.1
  have L : ∀ (c k b : Nat) (K : Int → zHt → Prop), b < k → k + c = r.1.length → K (zcb r.1 c k b : Int) H → zgo w (d + 1) 118 4 [zR o, zI b, zI k] [] H (zQI K) := by
    intro c
    induction c with
    | zero =>
      intro k b K h1 h2 h
      refine x118_4 ho ⟨fun _ => h, fun q => ?_⟩
      rw [hw.1] at q; omega
    | succ c ih =>
      intro k b K h1 h2 h
      have h : K (zcb r.1 c (k + 1) (if zcf1 r.1 b < zcf1 r.1 k then k else b) : Int) H := h
      refine x118_4 ho ⟨fun q => by rw [hw.1] at q; omega, fun _ => ?_⟩
      rw [c119 ho hok hw (by omega), c119 ho hok hw (by omega), zi1 (by omega)]
      refine ⟨fun q => ?_, fun q => ?_⟩
      · rw [if_neg (by omega)] at h; exact ih (k + 1) b K (by omega) (by omega) h
      · rw [if_pos (by omega)] at h; exact ih (k + 1) k K (by omega) (by omega) h
  exact zclI_eq fun K h => x118_0 ho (L (r.1.length - 1) 1 0 K (by omega) (by omega) h)
theorem zcb_lt {vs : List Int} : ∀ {c k b : Nat}, b < k → zcb vs c k b < k + c
  | 0, k, b, h => h
  | c + 1, k, b, h => by
    have := zcb_lt (vs := vs) (c := c) (k := k + 1) (b := if zcf1 vs b < zcf1 vs k then k else b) (by split <;> omega)
    have e : zcb vs (c + 1) k b = zcb vs c (k + 1) (if zcf1 vs b < zcf1 vs k then k else b) := rfl
    rw [e]; omega
theorem b117 {r t : Int} (hMR : zMR) (hD : zDk H) (hW : zWlk H) : zclI w (d + 6) 117 [zR 32, zI r, zI t] H (zPC H (zAr H (decide (0 ≤ t ∧ t ≤ 1)) r (zfcl t))) := by
  have h6 := hD.2.2.2.2.2.1
  unfold zAr
  refine x117_0 ?_
  simp only [c44, c106 h6.2, zit0, Classical.not_not]
  refine ⟨fun hg => ⟨fun hr => zwalk hMR hD hW hr (fun o H1 ho _ hF hw => ?_), fun hr => ?_⟩, fun hg => ?_⟩
  · rw [if_pos (decide_eq_true hg), if_pos hr]
    have ok := zRW_ok hMR hD hr
    have k1 := ok.1
    have hb := zcb_lt (vs := (zRW H r).1) (c := (zRW H r).1.length - 1) (k := 1) (b := 0) (by omega)
    unfold zfcl
    rw [c118 (d := d + 4) ho ok hw]
    refine ⟨fun q => zPC_d hF (by rw [if_neg q]), fun q => ?_⟩
    rw [c119 ho ok hw (by omega)]
    exact zPC_d hF (by rw [if_pos q])
  · rw [if_pos (decide_eq_true hg), if_neg hr]; exact zPC_r zcf_rfl rfl
  · rw [decide_eq_false hg, if_neg (by decide)]; exact zPC_r zcf_rfl rfl
theorem b234l {H0 : zHt} {t : Int} {r : List Int × Int × Int} (hok : zRowOk r) (hF : zmf H0 H) (hs : H 81 0 = 0) (hm : zMrow H r) : ∀ (c k m b fr : Nat), k + c = r.1.length → zclI2 r.1 k m b fr → zgo w (d + 1) 234 28 [zR 81, zJ, zI t, zI b, zI m, zI fr, zI k] [] H (zQI (zPM H0 (zfcl t r))) := by
  obtain ⟨w1, w2, w3, w4⟩ := hm
  have k1 := hok.1
  have k2 := hok.2.1
  intro c
  induction c with
  | zero =>
    intro k m b fr hk hI
    have hk : k = r.1.length := by omega
    subst hk
    rcases hI with z | ⟨-, hb, -⟩
    · omega
    · have hcb := zcb_ok (vs := r.1) (c := r.1.length - 1) (k := 1) (b := 0) (by omega) (by omega) (fun f hf => by rw [show f = 0 by omega]; exact Nat.le_refl _) (fun f hf => by omega)
      obtain ⟨e1, e2⟩ := zbst_uniq hb hcb
      unfold zfcl
      rw [← e2, e2] at e1
      refine x234_28 ⟨fun _ => ⟨fun q => zPM_0 hF hs (by rw [if_neg q, ← e2]), fun q => zPM_0 hF hs (by rw [if_pos q, e1])⟩, fun q => by omega⟩
  | succ c ih =>
    intro k m b fr hk hI
    have hfr : fr ≤ k ∧ m ≤ k := by
      rcases hI with z | ⟨-, hb, -, h, -⟩
      · omega
      · have := hb.1.2.1; omega
    have st := zclI2_step hI
    have nx : ∀ fr' : Nat, fr' = (if 0 < k ∧ r.1.getD (k - 1) 0 < r.1.getD k 0 then fr else k) → fr' ≤ k → ((m : Int) < w32 (w32 ((k : Int) - (fr' : Int)) + 1) → zgo w (d + 1) 234 28 [zR 81, zJ, zI t, zI fr', zI (w32 (w32 ((k : Int) - (fr' : Int)) + 1)), zI fr', zI (w32 ((k : Int) + 1))] [] H (zQI (zPM H0 (zfcl t r)))) ∧ (w32 (w32 ((k : Int) - (fr' : Int)) + 1) ≤ (m : Int) → zgo w (d + 1) 234 28 [zR 81, zJ, zI t, zI b, zI m, zI fr', zI (w32 ((k : Int) + 1))] [] H (zQI (zPM H0 (zfcl t r)))) := fun fr' h1 h2 => by
      have e : w32 (w32 ((k : Int) - (fr' : Int)) + 1) = ((k - fr' + 1 : Nat) : Int) := by rw [w32_id (show _ ≤ (k : Int) - (fr' : Int) ∧ _ by omega), w32_id (by omega)]; omega
      rw [e, zi1 (by omega)]
      have s := st fr' h1
      refine ⟨fun q => ?_, fun q => ?_⟩
      · rw [if_pos (by omega), if_pos (by omega)] at s
        exact ih (k + 1) _ _ _ (by omega) s
      · rw [if_neg (by omega), if_neg (by omega)] at s
        exact ih (k + 1) _ _ _ (by omega) s
    refine x234_28 ⟨fun q => by omega, fun _ => ⟨fun q => ?_, fun q => ⟨by omega, ?_, fun q2 => ?_, fun q2 => ?_⟩⟩⟩
    · exact nx k (by rw [if_neg (by omega)]) (Nat.le_refl _)
    · rw [w32_id (by omega)]; omega
    · rw [show w32 ((k : Int) - 1) = ((k - 1 : Nat) : Int) by rw [w32_id (by omega)]; omega, w4 k (by omega), w4 (k - 1) (by omega)] at q2
      exact nx k (by rw [if_neg (by omega)]) (Nat.le_refl _)
    · rw [show w32 ((k : Int) - 1) = ((k - 1 : Nat) : Int) by rw [w32_id (by omega)]; omega, w4 k (by omega), w4 (k - 1) (by omega)] at q2
      exact nx fr (by rw [if_pos ⟨by omega, q2⟩]) hfr.1
theorem b234 {r t : Int} (hMR : zMR) (hD : zDk H) : zclI w (d + 6) 234 [zR 81, zI r, zI t] H (zPM H (zAr H (decide (0 ≤ t ∧ t ≤ 1)) r (zfcl t))) := by
  refine x234_0 ?_
  rw [c173]
  refine c225t (f := zfcl t) hMR hD (fun hg hr H1 hF hs hm e => ?_) (fun s h => ⟨fun q => absurd rfl q, fun _ => h⟩)
  rw [e]
  have ok := zRW_ok hMR hD hr
  exact ⟨fun _ => b234l (d := d + 5) ok hF hs hm (zRW H r).1.length 0 0 0 0 (by omega) (Or.inl ⟨rfl, rfl, rfl, rfl⟩), fun q => absurd q (by decide)⟩
-- guides of values
theorem zval {r : List Int × Int × Int} {k : Nat} (hok : zRowOk r) (hk : k < r.1.length) : r.1.getD k 0 = (((r.1.getD k 0).toNat : Nat) : Int) ∧ (r.1.getD k 0).toNat ≤ 999999999 := by
  have := hok.2.2.1 k hk
  omega
theorem c238 {r : List Int × Int × Int} {k : Nat} (hok : zRowOk r) (hk : k < r.1.length) (hm : zMrow H r) : ∃ H', (zfg H H' ∧ (¬ zgk r.1 k = 0 → H' 81 9 = zta (r.1.getD k 0).toNat)) ∧ ∀ K : Int → zHt → Prop, zclI w (d + 2) 238 [zR 81, zI k] H K = K (zgk r.1 k) H' := by
  have k2 := hok.2.1
  have hA : H 94 k = r.1.getD k 0 := hm.2.2.2 k hk
  have hv := zval hok hk
  have g0 := zgde_0 (n := (r.1.getD k 0).toNat)
  by_cases hz : (r.1.getD k 0).toNat = 0 ∨ (r.1.getD k 0).toNat % 2 = 1
  · have eg : zgk r.1 k = 0 := g0.2.mpr hz
    refine ⟨H, ⟨fun _ _ _ _ _ => rfl, fun q => absurd eg q⟩, fun K => zclI_eq fun K h => x238_0 ⟨by omega, fun _ => by rw [eg] at h; exact h, fun q => ⟨fun q2 => ?_, fun _ => by rw [eg] at h; exact h⟩⟩⟩
    rw [hA, hv.1, ztm2] at q2
    rw [hA, hv.1] at q
    omega
  · obtain ⟨H1, L, e⟩ := c188 (w := w) (d := d) (H := H) (n := (r.1.getD k 0).toNat) (by omega) hv.2
    refine ⟨H1, ⟨zLaid_f L, fun _ => L.2.1⟩, fun K => zclI_eq fun K h => x238_0 ⟨by omega, fun q => ?_, fun q => ⟨fun q2 => ?_, fun q2 => ?_⟩⟩⟩
    · rw [hA] at q; omega
    · rw [hA, hv.1, e, c190 (n := (r.1.getD k 0).toNat) (by omega) (by omega) hv.2 L.2.1 L.2.2]
      exact h
    · rw [hA, hv.1, ztm2] at q2
      omega
theorem zMrow_fg {H1 : zHt} {r : List Int × Int × Int} (hm : zMrow H r) (f : zfg H H1) : zMrow H1 r := ⟨(f 81 21 (by decide) (by decide) (by decide)).trans hm.1, (f 81 22 (by decide) (by decide) (by decide)).trans hm.2.1, (f 81 23 (by decide) (by decide) (by decide)).trans hm.2.2.1, zArr_eq (fun k _ => f 94 k (by decide) (by decide) (by omega)) hm.2.2.2⟩
theorem zfg_0 {H1 : zHt} (f : zfg H H1) (hs : H 81 0 = 0) : H1 81 0 = 0 := (f 81 0 (by decide) (by decide) (by decide)).trans hs
-- lost
theorem b132 {r k : Int} (hMR : zMR) (hD : zDk H) (hW : zWlk H) (hk : r32 k) : zclI w (d + 6) 132 [zR 32, zI r, zI k] H (zPC H (zAr H (decide (1 ≤ k ∧ k ≤ 2147483647)) r (zfls k))) := by
  have h6 := hD.2.2.2.2.2.1
  unfold zAr
  refine x132_0 ?_
  simp only [c106 h6.2, zit0, Classical.not_not]
  refine ⟨fun hg => ⟨fun hr => zwalk hMR hD hW hr (fun o H1 ho _ hF hw => ?_), fun hr => ?_⟩, fun hg => ?_⟩
  · rw [if_pos (decide_eq_true ⟨hg, hk.2⟩), if_pos hr]
    have ok := zRW_ok hMR hD hr
    have k2 := ok.2.1
    obtain ⟨w1, w2, w3, w4⟩ := hw
    unfold zfls
    rw [w1]
    refine ⟨fun q => ?_, fun q => zPC_r hF (by rw [if_neg (by omega)])⟩
    have v1 := zval (k := k.toNat) ok (by omega)
    have v2 := zval (k := (k - 1).toNat) ok (by omega)
    rw [w32_id (show _ ≤ k - 1 ∧ _ by omega), zArr_i w4 (by omega) q, zArr_i w4 (show 0 ≤ k - 1 by omega) (by omega), v1.1, v2.1]
    simp only [c64 (d := d + 3) v1.2, c64 (d := d + 3) v2.2, Int.toNat_natCast]
    rw [if_pos q]
    refine ⟨by omega, by omega, fun q1 => zPC_d hF (by rw [if_pos q1]), fun q1 => ⟨fun q2 => zPC_d hF (by rw [if_neg q1, if_pos q2]), fun q2 => ⟨fun q3 => ?_, fun q3 => zPC_d hF (by rw [if_neg q1, if_neg q2, if_pos q3])⟩⟩⟩
    have z1 := zgde_0 (n := ((zRW H r).1.getD k.toNat 0).toNat)
    have z2 := zgde_0 (n := ((zRW H r).1.getD (k - 1).toNat 0).toNat)
    have n1 : 1 ≤ ((zRW H r).1.getD k.toNat 0).toNat := by
      rcases Nat.eq_zero_or_pos ((zRW H r).1.getD k.toNat 0).toNat with y | y
      · exact absurd (z1.2.mpr (Or.inl y)) q1
      · exact y
    have n2 : 1 ≤ ((zRW H r).1.getD (k - 1).toNat 0).toNat := by
      rcases Nat.eq_zero_or_pos ((zRW H r).1.getD (k - 1).toNat 0).toNat with y | y
      · exact absurd (z2.2.mpr (Or.inl y)) q2
      · exact y
    simp only [c67 n1 v1.2, c67 n2 v2.2]
    refine ⟨fun q4 => zPC_d hF (by rw [if_neg q1, if_neg q2, if_neg q3, if_pos (by omega)]), fun q4 => zPC_d hF (by rw [if_neg q1, if_neg q2, if_neg q3, if_neg (by omega)])⟩
  · rw [if_pos (decide_eq_true ⟨hg, hk.2⟩), if_neg hr]; exact zPC_r zcf_rfl rfl
  · rw [decide_eq_false (by omega), if_neg (by decide)]; exact zPC_r zcf_rfl rfl
theorem b239 {r k : Int} (hMR : zMR) (hD : zDk H) (hk : r32 k) : zclI w (d + 6) 239 [zR 81, zI r, zI k] H (zPM H (zAr H (decide (1 ≤ k ∧ k ≤ 2147483647)) r (zfls k))) := by
  have L : zgo w (d + 6) 239 11 [zR 81, zI r, zI k, zJ, zJ, zJ] [zI (if 1 ≤ k ∧ k ≤ 2147483647 then 1 else 0), zR 81] H (zQI (zPM H (zAr H (decide (1 ≤ k ∧ k ≤ 2147483647)) r (zfls k)))) := by
    refine x239_11 ?_
    refine c225t (f := zfls k) hMR hD (fun hg hr H1 hF hs hm e => ?_) (fun s h => ⟨fun q => absurd rfl q, fun _ => h⟩)
    rw [e]
    have ok := zRW_ok hMR hD hr
    have k2 := ok.2.1
    unfold zfls
    refine ⟨fun _ => ⟨fun q => ?_, fun q => zPM_r hF (by rw [if_neg (by rw [hm.1] at q; omega)])⟩, fun q => absurd q (by decide)⟩
    rw [hm.1] at q
    obtain ⟨H2, ⟨f2, t2⟩, e2⟩ := c238 (w := w) (d := d + 3) (k := (k - 1).toNat) ok (by omega) hm
    obtain ⟨H3, ⟨f3, t3⟩, e3⟩ := c238 (w := w) (d := d + 3) (k := k.toNat) ok (by omega) (zMrow_fg hm f2)
    rw [show w32 (k - 1) = (((k - 1).toNat : Nat) : Int) by rw [w32_id (by omega)]; omega, e2]
    rw [show zI k = zI ((k.toNat : Nat) : Int) by rw [Int.toNat_of_nonneg (by omega)], e3]
    have hF3 := zmf_fg (zmf_fg hF f2) f3
    have hs3 := zfg_0 f3 (zfg_0 f2 hs)
    unfold zgk at t2 t3 ⊢
    rw [if_pos q]
    refine ⟨fun q1 => zPM_0 hF3 hs3 ?_, fun q1 => ⟨fun q2 => zPM_0 hF3 hs3 (by rw [if_pos q2]), fun q2 => ⟨fun q3 => ?_, fun q3 => zPM_0 hF3 hs3 (by rw [if_neg q2, if_neg q1, if_pos q3.symm])⟩⟩⟩
    · by_cases y : zgde ((zRW H r).1.getD k.toNat 0).toNat = 0
      · rw [if_pos y]
      · rw [if_neg y, if_pos q1]
    · rw [t3 q2, t2 q1]
      exact ⟨fun q4 => zPM_0 hF3 hs3 (by rw [if_neg q2, if_neg q1, if_neg (fun z => q3 z.symm), if_pos (by omega)]), fun q4 => zPM_0 hF3 hs3 (by rw [if_neg q2, if_neg q1, if_neg (fun z => q3 z.symm), if_neg (by omega)])⟩
  refine x239_0 ⟨fun q => ?_, fun q => ?_⟩
  · rw [if_neg (by omega)] at L; exact L
  · rw [if_pos ⟨q, hk.2⟩] at L; exact L
end Z49
theorem l1312 {w : zWt} (hw : w.1 ≤ 3072) (hMR : zMR) : zLaw w (zKept zAllR) 1312 := fun H i hi hR K nx => x0_1312 (d := 1999) (by
  refine ⟨zidx hw hi (by decide) (by decide), zidx hw hi (by decide) (by decide), ?_⟩
  have r1 : r32 (zH0 w.2 0 (w32 ((i : Int) + 1))) := zv_r
  generalize zH0 w.2 0 (w32 ((i : Int) + 1)) = v1 at r1 ⊢
  have r2 : r32 (zH0 w.2 0 (w32 ((i : Int) + 2))) := zv_r
  generalize zH0 w.2 0 (w32 ((i : Int) + 2)) = v2 at r2 ⊢
  exact zcaseI (A := fun H => zAr H (decide (0 ≤ v2 ∧ v2 ≤ 1)) v1 (zfcl v2)) zAr_con hR (fun hD hW => b117 (d := 1993) hMR hD hW) (fun H1 hD => b234 (d := 1993) hMR hD) (fun x y H' hk e => nx H' hk))
theorem l1521 {w : zWt} (hw : w.1 ≤ 3072) (hMR : zMR) : zLaw w (zKept zAllR) 1521 := fun H i hi hR K nx => x0_1521 (d := 1999) (by
  refine ⟨zidx hw hi (by decide) (by decide), zidx hw hi (by decide) (by decide), ?_⟩
  have r1 : r32 (zH0 w.2 0 (w32 ((i : Int) + 1))) := zv_r
  generalize zH0 w.2 0 (w32 ((i : Int) + 1)) = v1 at r1 ⊢
  have r2 : r32 (zH0 w.2 0 (w32 ((i : Int) + 2))) := zv_r
  generalize zH0 w.2 0 (w32 ((i : Int) + 2)) = v2 at r2 ⊢
  exact zcaseI (A := fun H => zAr H (decide (1 ≤ v2 ∧ v2 ≤ 2147483647)) v1 (zfls v2)) zAr_con hR (fun hD hW => b132 (d := 1993) hMR hD hW r2) (fun H1 hD => b239 (d := 1993) hMR hD r2) (fun x y H' hk e => nx H' hk))
