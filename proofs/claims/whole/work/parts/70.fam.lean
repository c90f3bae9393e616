/-! the case families -/
def zun (L : Nat → Nat) (a b : Nat) : Nat → Nat := fun i => if L i = max a b then min a b else L i
noncomputable def zlb (law : Int) (m : Nat) : Nat → Nat → Nat
  | 0 => fun i => i
  | k + 1 => if 1 ≤ zsum law ((k + 1 : Nat)) ∧ zsum law ((k + 1 : Nat)) ≤ m then zun (zlb law m k) (zlb law m k (k + 1)) (zlb law m k (zsum law ((k + 1 : Nat))).toNat) else zlb law m k
def zLok (m : Nat) (L : Nat → Nat) : Prop := ∀ i, 1 ≤ i → i ≤ m → 1 ≤ L i ∧ L i ≤ i ∧ L (L i) = L i
theorem zun_ok {m x y : Nat} {L : Nat → Nat} (h : zLok m L) (hx : 1 ≤ x ∧ x ≤ m) (hy : 1 ≤ y ∧ y ≤ m) : zLok m (zun L (L x) (L y)) := fun i h1 h2 => by
  have a := h x hx.1 hx.2
  have b := h y hy.1 hy.2
  have c := h i h1 h2
  have hmn : L (min (L x) (L y)) = min (L x) (L y) := by
    rcases Nat.le_total (L x) (L y) with z | z
    · rw [Nat.min_eq_left z]; exact a.2.2
    · rw [Nat.min_eq_right z]; exact b.2.2
  unfold zun
  by_cases z : L i = max (L x) (L y)
  · rw [if_pos z]
    refine ⟨by omega, by omega, ?_⟩
    rw [hmn]
    split <;> rfl
  · rw [if_neg z]
    refine ⟨c.1, c.2.1, ?_⟩
    rw [c.2.2, if_neg z]
theorem zlb_ok {law : Int} {m : Nat} : ∀ {k : Nat}, k ≤ m → zLok m (zlb law m k)
  | 0, _ => fun i h1 _ => ⟨h1, Nat.le_refl _, rfl⟩
  | k + 1, hk => by
    have ih := zlb_ok (law := law) (m := m) (k := k) (by omega)
    unfold zlb
    split
    · rename_i z
      exact zun_ok ih ⟨by omega, hk⟩ ⟨by omega, by omega⟩
    · exact ih
/-- the class's forest -/
def zFo (m : Nat) (H : zHt) (L : Nat → Nat) : Prop := ∀ i : Nat, 1 ≤ i → i ≤ m → ∃ p : Nat, H 51 (i : Int) = (p : Int) ∧ 1 ≤ p ∧ p ≤ i ∧ L p = L i ∧ (p = i → L i = i)
theorem zFo_un {m x y : Nat} {H : zHt} {L : Nat → Nat} (h : zLok m L) (hF : zFo m H L) (hx : 1 ≤ x ∧ x ≤ m) (hy : 1 ≤ y ∧ y ≤ m) : zFo m (zup H 51 ((max (L x) (L y) : Nat) : Int) ((min (L x) (L y) : Nat) : Int)) (zun L (L x) (L y)) := fun i h1 h2 => by
  have a := h x hx.1 hx.2
  have b := h y hy.1 hy.2
  have c := h i h1 h2
  obtain ⟨p, p1, p2, p3, p4, p5⟩ := hF i h1 h2
  have hmn : L (min (L x) (L y)) = min (L x) (L y) := by
    rcases Nat.le_total (L x) (L y) with z | z
    · rw [Nat.min_eq_left z]; exact a.2.2
    · rw [Nat.min_eq_right z]; exact b.2.2
  have hmx : L (max (L x) (L y)) = max (L x) (L y) := by
    rcases Nat.le_total (L x) (L y) with z | z
    · rw [Nat.max_eq_right z]; exact b.2.2
    · rw [Nat.max_eq_left z]; exact a.2.2
  by_cases z : i = max (L x) (L y)
  · refine ⟨min (L x) (L y), by rw [z, zq_eq], by omega, by omega, ?_, fun q => ?_⟩
    · unfold zun
      rw [hmn, z, hmx, if_pos rfl]
      split <;> rfl
    · unfold zun
      rw [z, hmx, if_pos rfl]; omega
  · refine ⟨p, by rw [zq_ne (by omega)]; exact p1, p2, p3, ?_, fun q => ?_⟩
    · unfold zun
      rw [p4]
    · have := p5 q
      unfold zun
      rw [this, if_neg z]
section Z70
variable {w : zWt} {d : Nat} {H : zHt}
theorem c88 {m i : Nat} {L : Nat → Nat} {K : Int → zHt → Prop} (hm : m ≤ 500) (hF : zFo m H L) (h1 : 1 ≤ i) (h2 : i ≤ m) : zclI w d 88 [zR 32, zI i] H K = K ((L i : Nat) : Int) H := by
  have lp : ∀ (n i f : Nat) (K : Int → zHt → Prop), i ≤ n → 1 ≤ i → i ≤ m → f + i ≤ 501 → K ((L i : Nat) : Int) H → zgo w d 88 4 [zR 32, zJ, zI i, zI f] [] H (zQI K) := by
    intro n
    induction n with
    | zero => intro i f K h0 h1; omega
    | succ n ih =>
      intro i f K h0 h1 h2 hf h
      obtain ⟨p, p1, p2, p3, p4, p5⟩ := hF i h1 h2
      refine x88_4 ⟨fun q => by omega, fun _ => ⟨by omega, fun q => ?_, fun q => ?_⟩⟩
      · rw [p1] at q
        have := p5 (by omega)
        rw [this] at h; exact h
      · rw [p1] at q ⊢
        rw [zi1 (by omega)]
        exact ih p (f + 1) K (by omega) p2 (by omega) (by omega) (by rw [p4]; exact h)
  exact zclI_eq fun K h => x88_0 (lp i i 0 K (Nat.le_refl _) h1 h2 (by omega) h)
def zff (H0 H : zHt) : Prop := ∀ a j : Int, a ≠ 37 → a ≠ 38 → ¬ (a = 36 ∧ j = 3) → a ≠ 51 → H a j = H0 a j
theorem c87l {H0 : zHt} {m : Nat} (hMR : zMR) (hm : m ≤ 500) (hl : 0 ≤ H0 40 4 ∧ H0 40 4 ≤ 3) : ∀ (c k : Nat) (H : zHt), k + c = m → zff H0 H → zFo m H (zlb (H0 40 4) m k) → zgo w (d + 5) 87 26 [zR 32, zI m, zI ((k + 1 : Nat) : Int), zJ, zJ, zJ, zJ] [] H (zQV fun H' => zff H0 H' ∧ zFo m H' (zlb (H0 40 4) m m))
  | 0, k, H, hk, f, h => by
    have e : k = m := by omega
    subst e
    exact x87_26 ⟨fun _ => ⟨f, h⟩, fun q => by omega⟩
  | c + 1, k, H, hk, f, h => by
    have e4 : H 40 4 = H0 40 4 := f 40 4 (by decide) (by decide) (by omega) (by decide)
    obtain ⟨H1, f1, e1⟩ := c52 (w := w) (d := d) (H := H) (n := k + 1) hMR (by omega) (by omega) (by rw [e4]; exact hl)
    have ff1 : zff H0 H1 := fun a j q1 q2 q3 q4 => by rw [f1 a j q1 q2 q3]; exact f a j q1 q2 q3 q4
    have F1 : zFo m H1 (zlb (H0 40 4) m k) := fun i i1 i2 => by
      obtain ⟨p, p1, p2⟩ := h i i1 i2
      exact ⟨p, by rw [f1 51 i (by decide) (by decide) (by omega)]; exact p1, p2⟩
    have hok := zlb_ok (law := H0 40 4) (m := m) (k := k) (by omega)
    refine x87_26 ⟨fun q => by omega, fun _ => ?_⟩
    rw [e1, e4, zi1 (by omega)]
    have no : ¬ (1 ≤ zsum (H0 40 4) ((k + 1 : Nat)) ∧ zsum (H0 40 4) ((k + 1 : Nat)) ≤ m) → zgo w (d + 5) 87 26 [zR 32, zI m, zI ((k + 1 + 1 : Nat) : Int), zJ, zJ, zJ, zJ] [] H1 (zQV fun H' => zff H0 H' ∧ zFo m H' (zlb (H0 40 4) m m)) := fun z => by
      refine c87l hMR hm hl c (k + 1) H1 (by omega) ff1 ?_
      unfold zlb
      rw [if_neg z]; exact F1
    refine ⟨fun q => no (by omega), fun q => ⟨fun q2 => ?_, fun q2 => no (by omega)⟩⟩
    obtain ⟨y, hy⟩ : ∃ y : Nat, zsum (H0 40 4) ((k + 1 : Nat)) = y := ⟨(zsum (H0 40 4) ((k + 1 : Nat))).toNat, by omega⟩
    have e2 : zlb (H0 40 4) m (k + 1) = zun (zlb (H0 40 4) m k) (zlb (H0 40 4) m k (k + 1)) (zlb (H0 40 4) m k y) := by
      show (if 1 ≤ zsum (H0 40 4) ((k + 1 : Nat)) ∧ zsum (H0 40 4) ((k + 1 : Nat)) ≤ m then zun (zlb (H0 40 4) m k) (zlb (H0 40 4) m k (k + 1)) (zlb (H0 40 4) m k (zsum (H0 40 4) ((k + 1 : Nat))).toNat) else zlb (H0 40 4) m k) = _
      rw [if_pos ⟨q, q2⟩, hy]; rfl
    rw [hy] at q q2 ⊢
    have FU := zFo_un hok F1 (x := k + 1) (y := y) ⟨by omega, by omega⟩ ⟨by omega, by omega⟩
    have bx := hok (k + 1) (by omega) (by omega)
    have bY := hok y (by omega) (by omega)
    rw [c88 hm F1 (by omega) (by omega), w32_id (x := (y : Int)) (by omega), c88 hm F1 (by omega) (by omega)]
    have emx : (if ((zlb (H0 40 4) m k (k + 1) : Nat) : Int) < ((zlb (H0 40 4) m k y : Nat) : Int) then ((zlb (H0 40 4) m k y : Nat) : Int) else ((zlb (H0 40 4) m k (k + 1) : Nat) : Int)) = ((max (zlb (H0 40 4) m k (k + 1)) (zlb (H0 40 4) m k y) : Nat) : Int) := by split <;> omega
    have emn : (if ((zlb (H0 40 4) m k y : Nat) : Int) < ((zlb (H0 40 4) m k (k + 1) : Nat) : Int) then ((zlb (H0 40 4) m k y : Nat) : Int) else ((zlb (H0 40 4) m k (k + 1) : Nat) : Int)) = ((min (zlb (H0 40 4) m k (k + 1)) (zlb (H0 40 4) m k y) : Nat) : Int) := by split <;> omega
    rw [emx, emn]
    refine ⟨by omega, c87l hMR hm hl c (k + 1) _ (by omega) (fun a j q1 q2 q3 q4 => by rw [zq_ne (fun z => q4 z.1)]; exact ff1 a j q1 q2 q3 q4) ?_⟩
    rw [e2]; exact FU
theorem c87i {H0 : zHt} {m : Nat} (hm : m ≤ 500) (Q : zHt → Prop) (hQ : ∀ H', (∀ a j : Int, a ≠ 51 → H' a j = H0 a j) → (∀ i : Nat, i ≤ 500 → H' 51 (i : Int) = (i : Int)) → zgo w (d + 5) 87 26 [zR 32, zI m, zI 1, zJ, zJ, zJ, zJ] [] H' (zQV Q)) : ∀ (c k : Nat) (H : zHt), k + c = 501 → (∀ a j : Int, a ≠ 51 → H a j = H0 a j) → (∀ i : Nat, i < k → H 51 (i : Int) = (i : Int)) → zgo w (d + 5) 87 2 [zR 32, zI m, zI k, zJ, zJ, zJ, zJ] [] H (zQV Q)
  | 0, k, H, hk, f, h => x87_2 ⟨fun _ => hQ H f (fun i hi => h i (by omega)), fun q => by omega⟩
  | c + 1, k, H, hk, f, h => by
    refine x87_2 ⟨fun q => by omega, fun _ => ⟨by omega, ?_⟩⟩
    rw [zi1 (by omega)]
    refine c87i hm Q hQ c (k + 1) _ (by omega) (fun a j q => by rw [zq_ne (fun z => q z.1)]; exact f a j q) (fun i hi => ?_)
    by_cases z : i = k
    · subst z; rw [zq_eq]
    · rw [zq_ne (by omega)]; exact h i (by omega)
theorem c87 {m : Nat} (hMR : zMR) (hm : m ≤ 500) (hl : 0 ≤ H 40 4 ∧ H 40 4 ≤ 3) : ∃ H', (zff H H' ∧ zFo m H' (zlb (H 40 4) m m)) ∧ ∀ K : zHt → Prop, zclV w (d + 5) 87 [zR 32, zI m] H K = K H' :=
  zclV_ex (x87_0 (d := d + 4) (c87i (H0 := H) hm _ (fun H' f h => c87l (H0 := H) hMR hm hl m 0 H' (by omega) (fun a j _ _ _ q4 => f a j q4) (fun i i1 i2 => ⟨i, h i (by omega), i1, Nat.le_refl _, rfl, fun _ => rfl⟩)) 501 0 H (by omega) (fun _ _ _ => rfl) (fun i hi => by omega)))
theorem zcn_sn {P : Nat → Bool} : ∀ {c m : Nat}, zcn P (c + 1) m = zcn P c m + (if P (m + c) = true then 1 else 0)
  | 0, m => by show (if P m = true then 1 else 0) + 0 = 0 + (if P (m + 0) = true then 1 else 0); rw [Nat.add_zero, Nat.zero_add, Nat.add_zero]
  | c + 1, m => by
    show (if P m = true then 1 else 0) + zcn P (c + 1) (m + 1) = ((if P m = true then 1 else 0) + zcn P c (m + 1)) + _
    rw [zcn_sn (c := c) (m := m + 1), show m + 1 + c = m + (c + 1) by omega, Nat.add_assoc]
/-- how many have the label j -/
def zsz (L : Nat → Nat) (m j : Nat) : Nat := zcn (fun i => decide (L i = j)) m 1
theorem zsz_sn {L : Nat → Nat} {k j : Nat} : zsz L (k + 1) j = zsz L k j + if L (k + 1) = j then 1 else 0 := by
  unfold zsz
  rw [zcn_sn, show 1 + k = k + 1 by omega]
  by_cases z : L (k + 1) = j
  · rw [if_pos z, if_pos (decide_eq_true z)]
  · rw [if_neg z, if_neg (by rw [decide_eq_false z]; decide)]
theorem zsz_le {L : Nat → Nat} {m j : Nat} : zsz L m j ≤ m := zcn_le
theorem zsz_0 {L : Nat → Nat} {j : Nat} (hj : ¬ L j = j) : ∀ {m : Nat}, (∀ i, 1 ≤ i → i ≤ m → L (L i) = L i) → zsz L m j = 0
  | 0, _ => rfl
  | m + 1, h => by
    rw [zsz_sn, zsz_0 hj (fun i h1 h2 => h i h1 (by omega)), if_neg (fun z => hj (by have := h (m + 1) (by omega) (Nat.le_refl _); rw [z] at this; exact this))]
theorem zsz_1 {L : Nat → Nat} {j : Nat} (hj : L j = j) (h1 : 1 ≤ j) : ∀ {m : Nat}, j ≤ m → 1 ≤ zsz L m j
  | 0, h => by omega
  | m + 1, h => by
    rw [zsz_sn]
    by_cases z : j = m + 1
    · rw [← z, if_pos hj]; omega
    · have := zsz_1 hj h1 (m := m) (by omega); omega
theorem c89l {H0 : zHt} {m : Nat} {L : Nat → Nat} (hm : m ≤ 500) (hL : zLok m L) (hF : zFo m H0 L) : ∀ (c k : Nat) (H : zHt), k + c = m → (∀ a j : Int, a ≠ 50 → H a j = H0 a j) → (∀ j : Nat, j ≤ 500 → H 50 (j : Int) = ((zsz L k j : Nat) : Int)) → zgo w (d + 1) 89 26 [zR 32, zI m, zI ((k + 1 : Nat) : Int)] [] H (zQV fun H' => (∀ a j : Int, a ≠ 50 → H' a j = H0 a j) ∧ ∀ j : Nat, j ≤ 500 → H' 50 (j : Int) = ((zsz L m j : Nat) : Int))
  | 0, k, H, hk, f, h => by
    have e : k = m := by omega
    subst e
    exact x89_26 ⟨fun _ => ⟨f, h⟩, fun q => by omega⟩
  | c + 1, k, H, hk, f, h => by
    have F1 : zFo m H L := fun i i1 i2 => by
      obtain ⟨p, p1, p2⟩ := hF i i1 i2
      exact ⟨p, by rw [f 51 i (by decide)]; exact p1, p2⟩
    have hl := hL (k + 1) (by omega) (by omega)
    refine x89_26 ⟨fun q => by omega, fun _ => ?_⟩
    rw [c88 hm F1 (by omega) (by omega), zi1 (by omega), h _ (by omega)]
    have hle := zsz_le (L := L) (m := k) (j := L (k + 1))
    refine ⟨by omega, c89l hm hL hF c (k + 1) _ (by omega) (fun a j q => by rw [zq_ne (fun z => q z.1)]; exact f a j q) (fun j hj => ?_)⟩
    rw [zsz_sn]
    by_cases z : L (k + 1) = j
    · subst z; rw [zq_eq, if_pos rfl, w64_id (by omega)]; rfl
    · rw [zq_ne (by omega), if_neg z]; exact h j hj
theorem c89i {H0 : zHt} {m : Nat} (Q : zHt → Prop) (hQ : ∀ H', (∀ a j : Int, a ≠ 50 → H' a j = H0 a j) → (∀ i : Nat, i ≤ 500 → H' 50 (i : Int) = 0) → zgo w (d + 1) 89 26 [zR 32, zI m, zI 1] [] H' (zQV Q)) : ∀ (c k : Nat) (H : zHt), k + c = 501 → (∀ a j : Int, a ≠ 50 → H a j = H0 a j) → (∀ i : Nat, i < k → H 50 (i : Int) = 0) → zgo w (d + 1) 89 2 [zR 32, zI m, zI k] [] H (zQV Q)
  | 0, k, H, hk, f, h => x89_2 ⟨fun _ => hQ H f (fun i hi => h i (by omega)), fun q => by omega⟩
  | c + 1, k, H, hk, f, h => by
    refine x89_2 ⟨fun q => by omega, fun _ => ⟨by omega, ?_⟩⟩
    rw [zi1 (by omega)]
    refine c89i Q hQ c (k + 1) _ (by omega) (fun a j q => by rw [zq_ne (fun z => q z.1)]; exact f a j q) (fun i hi => ?_)
    by_cases z : i = k
    · subst z; rw [zq_eq]
    · rw [zq_ne (by omega)]; exact h i (by omega)
theorem c89 {m : Nat} {L : Nat → Nat} (hm : m ≤ 500) (hL : zLok m L) (hF : zFo m H L) : ∃ H', ((∀ a j : Int, a ≠ 50 → H' a j = H a j) ∧ ∀ j : Nat, j ≤ 500 → H' 50 (j : Int) = ((zsz L m j : Nat) : Int)) ∧ ∀ K : zHt → Prop, zclV w (d + 1) 89 [zR 32, zI m] H K = K H' :=
  zclV_ex (x89_0 (c89i (H0 := H) _ (fun H' f h => c89l (H0 := H) hm hL hF m 0 H' (by omega) f (fun j hj => h j hj)) 501 0 H (by omega) (fun _ _ _ => rfl) (fun i hi => by omega)))
/-- families counted: how many, alone, the greatest's least number -/
def zfam (S : Nat → Nat) : Nat → Nat → Nat → Nat → Nat → Nat × Nat × Nat
  | 0, _, u, al, b => (u, al, b)
  | c + 1, k, u, al, b => zfam S c (k + 1) (if S k = 0 then u else u + 1) (if S k = 1 then al + 1 else al) (if S b < S k then k else b)
def zfpk4 (S : Nat → Nat) (t : Int) (r : Nat × Nat × Nat) : Int := if t = 0 then (r.1 : Int) else if t = 1 then (S r.2.2 : Int) else if t = 2 then (r.2.2 : Int) else (r.2.1 : Int)
theorem c86l {H0 : zHt} {m : Nat} {S : Nat → Nat} {t x : Int} (hm : m ≤ 500) (ht : 0 ≤ t ∧ t ≤ 3) (hS : ∀ j : Nat, j ≤ 500 → H 50 (j : Int) = ((S j : Nat) : Int)) (hb : ∀ j, S j ≤ 500) (f : zcf H0 H) : ∀ (c k u al b : Nat), k + c = m + 1 → 1 ≤ k → u ≤ k → al ≤ k → b ≤ 500 → x = zfpk4 S t (zfam S c k u al b) → zgo w (d + 1) 86 47 [zR 32, zI m, zI t, zI u, zI al, zI b, zI k] [] H (zQI (zPC H0 (0, x)))
  | 0, k, u, al, b, hk, h1, hu, ha, hbb, e => by
    have e : x = zfpk4 S t (u, al, b) := e
    unfold zfpk4 at e
    have h5 := hb b
    refine x86_47 ⟨fun _ => ⟨fun q => ?_, fun q => ?_, fun q => ?_, fun q => ?_⟩, fun q => by omega⟩
    · rw [if_neg (by omega), if_neg (by omega), if_neg (by omega)] at e
      exact zPC_d f (by rw [e])
    · rw [if_pos q] at e
      exact zPC_d f (by rw [e])
    · rw [if_neg (by omega), if_pos q] at e
      rw [hS b hbb, w32_id (by omega)]
      exact ⟨by omega, zPC_d f (by rw [e])⟩
    · rw [if_neg (by omega), if_neg (by omega), if_pos q] at e
      exact zPC_d f (by rw [e])
  | c + 1, k, u, al, b, hk, h1, hu, ha, hbb, e => by
    have e : x = zfpk4 S t (zfam S c (k + 1) (if S k = 0 then u else u + 1) (if S k = 1 then al + 1 else al) (if S b < S k then k else b)) := e
    have st : ∀ u' : Nat, u' = (if S k = 0 then u else u + 1) → zgo w (d + 1) 86 78 [zR 32, zI m, zI t, zI u', zI al, zI b, zI k] [] H (zQI (zPC H0 (0, x))) := fun u' eu => by
      rw [← eu] at e
      have hu' : u' ≤ k + 1 := by rw [eu]; split <;> omega
      refine x86_78 ⟨by omega, fun q => ⟨by omega, fun q2 => ?_, fun q2 => ?_⟩, fun q => ⟨by omega, fun q2 => ?_, fun q2 => ?_⟩⟩
      · rw [hS k (by omega)] at q q2
        rw [hS b hbb] at q2
        rw [if_neg (show ¬ S k = 1 by omega), if_neg (show ¬ S b < S k by omega)] at e
        rw [zi1 (by omega)]
        exact c86l hm ht hS hb f c (k + 1) u' al b (by omega) (by omega) hu' (by omega) hbb e
      · rw [hS k (by omega)] at q q2
        rw [hS b hbb] at q2
        rw [if_neg (show ¬ S k = 1 by omega), if_pos (show S b < S k by omega)] at e
        rw [zi1 (by omega)]
        exact c86l hm ht hS hb f c (k + 1) u' al k (by omega) (by omega) hu' (by omega) (by omega) e
      · rw [hS k (by omega)] at q q2
        rw [hS b hbb] at q2
        rw [if_pos (show S k = 1 by omega), if_neg (show ¬ S b < S k by omega)] at e
        rw [zi1 (m := k) (by omega), zi1 (m := al) (by omega)]
        exact c86l hm ht hS hb f c (k + 1) u' (al + 1) b (by omega) (by omega) hu' (by omega) hbb e
      · rw [hS k (by omega)] at q q2
        rw [hS b hbb] at q2
        rw [if_pos (show S k = 1 by omega), if_pos (show S b < S k by omega)] at e
        rw [zi1 (m := k) (by omega), zi1 (m := al) (by omega)]
        exact c86l hm ht hS hb f c (k + 1) u' (al + 1) k (by omega) (by omega) hu' (by omega) (by omega) e
    refine x86_47 ⟨fun q => by omega, fun _ => ⟨fun q => by omega, fun _ => ⟨by omega, fun q => ?_, fun q => ?_⟩⟩⟩
    · rw [hS k (by omega)] at q
      exact st u (by rw [if_pos (by omega)])
    · rw [hS k (by omega)] at q
      rw [zi1 (by omega)]
      exact st (u + 1) (by rw [if_neg (by omega)])
end Z70
