/-! the cases duel, meets, splits -/
noncomputable def zAr2 (H : zHt) (g : Bool) (r s : Int) (f : List Int × Int × Int → List Int × Int × Int → Int × Int) : Int × Int := if g = true then (if (0 ≤ r ∧ r < H 40 1) ∧ 0 ≤ s ∧ s < H 40 1 then (if r = s then (4, -1) else f (zRW H r) (zRW H s)) else (2, -1)) else (1, -1)
theorem zAr2_con {g : Bool} {r s : Int} {f : List Int × Int × Int → List Int × Int × Int → Int × Int} : zcon (fun H => zAr2 H g r s f) := fun H H1 h => by
  show zAr2 H1 g r s f = zAr2 H g r s f
  unfold zAr2
  rw [h 40 1 rfl, zRW_eq h, zRW_eq h]
def zPab (va vb : List Int) (k : Nat) : Bool := decide (vb.getD k 0 < va.getD k 0)
def zcmp3 (a b : Int) : Int := if a < b then -1 else if a = b then 0 else 1
def ztn (va vb : List Int) : Nat → Nat → Int → Nat → Nat
  | 0, _, _, f => f
  | c + 1, k, la, f =>
    if zcmp3 (va.getD k 0) (vb.getD k 0) = 0 then ztn va vb c (k + 1) la f
    else ztn va vb c (k + 1) (zcmp3 (va.getD k 0) (vb.getD k 0)) (if ¬ la = 0 ∧ ¬ la = zcmp3 (va.getD k 0) (vb.getD k 0) then f + 1 else f)
def zmi (a b : Nat) : Nat := if b < a then b else a
def zfdu (t : Int) (a b : List Int × Int × Int) : Int × Int := (0, if t = 0 then (zcn (zPab a.1 b.1) (zmi a.1.length b.1.length) 0 : Int) else if t = 1 then (zcn (zPab b.1 a.1) (zmi a.1.length b.1.length) 0 : Int) else if t = 2 then (ztn a.1 b.1 (zmi a.1.length b.1.length) 0 0 0 : Int) else (zmi a.1.length b.1.length : Int) - 1)
def zmt (t : Int) (va vb : List Int) : Nat → Nat → Int × Int
  | 0, _ => (5, -1)
  | c + 1, k => if zplc (va.getD k 0) vb 0 = -1 then zmt t va vb c (k + 1) else (0, if t = 0 then va.getD k 0 else if t = 1 then (k : Int) else zplc (va.getD k 0) vb 0)
def zfme (t : Int) (a b : List Int × Int × Int) : Int × Int := zmt t a.1 b.1 a.1.length 0
def zsp (va vb : List Int) : Nat → Nat → Nat
  | 0, k => k
  | c + 1, k => if va.getD k 0 = vb.getD k 0 then zsp va vb c (k + 1) else k
theorem zsp_b {va vb : List Int} : ∀ {c k : Nat}, k ≤ zsp va vb c k ∧ zsp va vb c k ≤ k + c
  | 0, k => ⟨Nat.le_refl _, Nat.le_refl _⟩
  | c + 1, k => by
    have := zsp_b (va := va) (vb := vb) (c := c) (k := k + 1)
    have e : zsp va vb (c + 1) k = if va.getD k 0 = vb.getD k 0 then zsp va vb c (k + 1) else k := rfl
    rw [e]
    split <;> omega
/-- a row, and the other one by another law -/
def zfspl (t : Int) (a b : List Int × Int × Int) : Int × Int := if t = 0 then (if zsp a.1 b.1 (zmi a.1.length b.1.length) 0 = a.1.length ∧ zsp a.1 b.1 (zmi a.1.length b.1.length) 0 = b.1.length then (5, -1) else (0, (zsp a.1 b.1 (zmi a.1.length b.1.length) 0 : Int))) else (0, if t = 1 then (b.1.length : Int) else if t = 2 then b.2.1 else b.1.getD (b.1.length - 1) 0)
noncomputable def zAspl (H : zHt) (r law t : Int) : Int × Int := if (0 ≤ law ∧ law ≤ 3) ∧ 0 ≤ t ∧ t ≤ 3 then (if 0 ≤ r ∧ r < H 40 1 then (if law = H 40 4 then (4, -1) else zfspl t (zRW H r) (zrow law (H 40 2) (H 40 3) (H 41 r))) else (2, -1)) else (1, -1)
theorem zAspl_con {r law t : Int} : zcon (fun H => zAspl H r law t) := fun H H1 h => by
  show zAspl H1 r law t = zAspl H r law t
  unfold zAspl
  rw [h 40 1 rfl, h 40 2 rfl, h 40 3 rfl, h 40 4 rfl, h 41 r rfl, zRW_eq h]
section Z52
variable {w : zWt} {d : Nat} {H : zHt}
/-- a call on two rows, by the class -/
theorem zwalk2 {r s : Int} {P : Int → Int → zHt → Prop} (hMR : zMR) (hD : zDk H) (hW : zWlk H) (hr : 0 ≤ r ∧ r < H 40 1) (hs : 0 ≤ s ∧ s < H 40 1) (hne : ¬ r = s) (h : ∀ (o1 o2 : Int) (H1 : zHt), zisW o1 → zisW o2 → zcf H H1 → zWalkIs H1 o1 (zRW H r) → zWalkIs H1 o2 (zRW H s) → P o1 o2 H1) : zclR w (d + 5) 108 [zR 32, zI r] H (fun x H1 => zisW x ∧ zclR w (d + 5) 108 [zR 32, zI s] H1 (fun y H2 => zisW y ∧ P x y H2)) := by
  obtain ⟨n, rfl⟩ : ∃ n : Nat, r = n := ⟨r.toNat, by omega⟩
  obtain ⟨m, rfl⟩ : ∃ n : Nat, s = n := ⟨s.toNat, by omega⟩
  have h6 := hD.2.2.2.2.2.1
  obtain ⟨H1, ⟨a1, a2, a3, a4⟩, e⟩ := c108 (w := w) (d := d) (H := H) (r := n) hMR hD hW hr.2
  have hD1 : zDk H1 := by
    have k1 := a1.1.1
    have e1 : ∀ j, H1 40 j = H 40 j := fun j => k1 40 j rfl
    have e2 : ∀ j, H1 41 j = H 41 j := fun j => k1 41 j rfl
    have e3 : ∀ j, H1 82 j = H 82 j := fun j => k1 82 j rfl
    unfold zDk at hD ⊢
    simp only [e1, e2, e3]
    exact hD
  obtain ⟨H2, ⟨b1, b2, b3, b4⟩, e2⟩ := c108 (w := w) (d := d) (H := H1) (r := m) hMR hD1 (a1.1.2 hW) (by rw [a1.1.1 40 1 rfl]; exact hs.2)
  rw [e]
  refine ⟨zisW_r (by omega), ?_⟩
  rw [e2]
  have kk := b4 n (by omega) (by omega)
  refine ⟨zisW_r (by omega), h _ _ H2 (zisW_r (by omega)) (zisW_r (by omega)) (zcf_tr a1 b1) ⟨?_, ?_, ?_, ?_⟩ (by rw [← zRW_eq a1.1.1]; exact b3)⟩
  · rw [(kk 1).1]; exact a3.1
  · rw [(kk 2).1]; exact a3.2.1
  · rw [(kk 3).1]; exact a3.2.2.1
  · exact zArr_eq (fun k _ => (kk k).2) a3.2.2.2
-- the model's second row
def zaf (H0 H : zHt) : Prop := ∀ a j : Int, a ≠ 85 → a ≠ 86 → a ≠ 94 → a ≠ 95 → ¬ (a = 81 ∧ (j = 8 ∨ (21 ≤ j ∧ j ≤ 25))) → H a j = H0 a j
theorem zaf_gf {H0 H H1 : zHt} (h : zaf H0 H) (g : zgf H H1) : zaf H0 H1 := fun a j h1 h2 h3 h4 h5 => (g a j h1 h2 h3 (by omega)).trans (h a j h1 h2 h3 h4 h5)
theorem zaf_95 {H0 H : zHt} {i x : Int} (h : zaf H0 H) : zaf H0 (zup H 95 i x) := fun a j h1 h2 h3 h4 h5 => by
  rw [zq_ne (by omega)]; exact h a j h1 h2 h3 h4 h5
theorem zaf_keep {H H' : zHt} (h : zaf H H') : zkeep H H' := fun a j q => h a j (fun z => by subst z; cases q) (fun z => by subst z; cases q) (fun z => by subst z; cases q) (fun z => by subst z; cases q) (fun z => by
  obtain ⟨rfl, z⟩ := z
  rcases (by omega : j = 8 ∨ j = 21 ∨ j = 22 ∨ j = 23 ∨ j = 24 ∨ j = 25) with rfl | rfl | rfl | rfl | rfl | rfl <;> cases q)
theorem zmf_af {H0 H H1 : zHt} (h : zmf H0 H) (f : zaf H H1) : zmf H0 H1 := zmf_tr h ⟨zaf_keep f, f 32 14 (by decide) (by decide) (by decide) (by decide) (by decide)⟩
def zAside (H : zHt) (v : List Int) : Prop := H 81 24 = v.length ∧ zArr H 95 v
theorem c244l {H0 : zHt} {r : List Int × Int × Int} (hok : zRowOk r) : ∀ (c k : Nat) (H : zHt), k + c = r.1.length → zaf H0 H → zMrow H r → (∀ j : Nat, j < k → H 95 j = r.1.getD j 0) → zgo w (d + 1) 244 12 [zR 81, zJ, zI k] [] H (zQV fun H' => zaf H0 H' ∧ zAside H' r.1) := by
  have k2 := hok.2.1
  intro c
  induction c with
  | zero =>
    intro k H hk hF hm hT
    have w1 := hm.1
    refine x244_12 (H := H) (K := fun H' => zaf H0 H' ∧ zAside H' r.1) ⟨fun _ => ⟨fun a j h1 h2 h3 h4 h5 => ?_, ?_, ?_⟩, fun q => by omega⟩
    · rw [zq_ne (by omega)]; exact hF a j h1 h2 h3 h4 h5
    · rw [zq_eq]; exact w1
    · exact zArr_eq (H := H) (fun i _ => by rw [zq_ne (by omega)]) (fun j hj => hT j (by omega))
  | succ c ih =>
    intro k H hk hF hm hT
    have w1 := hm.1
    refine x244_12 (H := H) (K := fun H' => zaf H0 H' ∧ zAside H' r.1) ⟨fun q => by omega, fun _ => ⟨by omega, ?_⟩⟩
    rw [hm.2.2.2 k (by omega), zi1 (by omega)]
    refine ih (k + 1) _ (by omega) (zaf_95 hF) ⟨?_, ?_, ?_, ?_⟩ (fun j hj => ?_)
    · rw [zq_ne (by omega)]; exact hm.1
    · rw [zq_ne (by omega)]; exact hm.2.1
    · rw [zq_ne (by omega)]; exact hm.2.2.1
    · exact zArr_eq (fun i _ => by rw [zq_ne (by omega)]) hm.2.2.2
    · by_cases z : j = k
      · subst z; rw [zq_eq]
      · rw [zq_ne (by omega)]; exact hT j (by omega)
theorem zDk_82 {H1 : zHt} (hD : zDk H) (h : ∀ a j : Int, (a = 40 ∨ a = 41 ∨ a = 82) → H1 a j = H a j) : zDk H1 := by
  unfold zDk at hD ⊢
  simp only [h 40 _ (Or.inl rfl), h 41 _ (Or.inr (Or.inl rfl)), h 82 _ (Or.inr (Or.inr rfl))]
  exact hD
theorem zRW_82 {H1 : zHt} {r : Int} (h : ∀ a j : Int, (a = 40 ∨ a = 41 ∨ a = 82) → H1 a j = H a j) : zRW H1 r = zRW H r := by
  unfold zRW
  rw [h 40 4 (Or.inl rfl), h 40 2 (Or.inl rfl), h 40 3 (Or.inl rfl), h 41 r (Or.inr (Or.inl rfl))]
theorem c244 {s : Int} (hMR : zMR) (hD : zDk H) (hs : 0 ≤ s ∧ s < H 40 1) : ∃ H', (zaf H H' ∧ zAside H' (zRW H s).1) ∧ ∀ K : zHt → Prop, zclV w (d + 5) 244 [zR 81, zI s] H K = K H' := by
  have d6 := hD.2.2.2.2.2.1
  obtain ⟨H1, ⟨f, hm⟩, e⟩ := c226 (w := w) (d := d) (H := H) (H0 := H) (r := s) hMR hD hs
  refine zclV_ex (x244_0 ⟨by omega, ?_⟩)
  rw [e]
  exact c244l (d := d + 4) (zRW_ok hMR hD hs) (zRW H s).1.length 0 H1 (by omega) (zaf_gf (fun _ _ _ _ _ _ _ => rfl) f) hm (fun j hj => by omega)
/-- a call on two rows, by the model -/
theorem c246 {b c t r s : Int} {f : List Int × Int × Int → List Int × Int × Int → Int × Int} {P : Int → zHt → Prop} (hMR : zMR) (hD : zDk H) (h0 : (b ≤ t ∧ t ≤ c) → (0 ≤ r ∧ r < H 40 1) → (0 ≤ s ∧ s < H 40 1) → ∀ H1, zmf H H1 → H1 81 0 = 0 → zMrow H1 (zRW H r) → zAside H1 (zRW H s).1 → zAr2 H (decide (b ≤ t ∧ t ≤ c)) r s f = f (zRW H r) (zRW H s) → P 1 H1) (h1 : ∀ q, zPM H (zAr2 H (decide (b ≤ t ∧ t ≤ c)) r s f) (-1) (zst H q) → P 0 (zst H q)) : zclI w (d + 6) 246 [zR 81, zI (if b ≤ t ∧ t ≤ c then 1 else 0), zI r, zI s] H P := by
  have d6 := hD.2.2.2.2.2.1
  have d3 := hD.2.2.1
  have s2 : (b ≤ t ∧ t ≤ c) → ¬ ((0 ≤ r ∧ r < H 40 1) ∧ 0 ≤ s ∧ s < H 40 1) → P 0 (zst H 2) := fun hg hn => h1 2 (zPM_n zmf_rfl (by unfold zAr2; rw [if_pos (decide_eq_true hg), if_neg hn]))
  have hgg : ∀ {g : Prop} {i : Decidable g}, ¬ (if g then (1 : Int) else 0) = 0 → g := fun {g i} z => by
    rcases Classical.em g with y | y
    · exact y
    · rw [if_neg y] at z; exact absurd rfl z
  have hgn : ∀ {g : Prop} {i : Decidable g}, (if g then (1 : Int) else 0) = 0 → ¬ g := fun {g i} z y => by
    rw [if_pos y] at z; exact absurd z (by decide)
  refine x246_0 ⟨fun hg => ?_, fun hg => ?_⟩
  · have hg := hgg hg
    rw [c223 (by rw [d3]; exact d6), d3]
    refine ⟨fun hr => ?_, fun hr => ?_⟩
    · have hr := hgn hr
      rw [c174_2]
      exact ⟨fun q => absurd rfl q, fun _ => s2 hg (fun z => hr z.1)⟩
    · have hr := hgg hr
      rw [c223 (by rw [d3]; exact d6), d3]
      refine ⟨fun hs => ⟨fun hne => ?_, fun hne => ?_⟩, fun hs => ?_⟩
      · have hs := hgg hs
        rw [c174_0]
        refine ⟨fun _ => ?_, fun q => absurd q (by decide)⟩
        have hDz := zDk_zst (s := 0) hD
        have hrz : 0 ≤ r ∧ r < zst H 0 40 1 := by rw [zst_at (by omega)]; exact hr
        have hsz : 0 ≤ s ∧ s < zst H 0 40 1 := by rw [zst_at (by omega)]; exact hs
        obtain ⟨H1, ⟨f1, as1⟩, e1⟩ := c244 (w := w) (d := d) (H := zst H 0) (s := s) hMR hDz hsz
        rw [e1]
        have k82 : ∀ a j : Int, (a = 40 ∨ a = 41 ∨ a = 82) → H1 a j = zst H 0 a j := fun a j z => f1 a j (by omega) (by omega) (by omega) (by omega) (by omega)
        obtain ⟨H2, ⟨f2, hm⟩, e2⟩ := c226 (w := w) (d := d + 1) (H := H1) (H0 := H1) (r := r) hMR (zDk_82 hDz k82) (by rw [k82 40 1 (Or.inl rfl)]; exact hrz)
        refine ⟨by omega, ?_⟩
        rw [e2]
        rw [zRW_82 k82, zRW_zst] at hm
        rw [zRW_zst] at as1
        refine h0 hg hr hs H2 (zmf_gf (zmf_af (zst_f zmf_rfl) f1) f2) ?_ hm ⟨(f2 81 24 (by decide) (by decide) (by decide) (by decide)).trans as1.1, zArr_eq (fun k _ => f2 95 k (by decide) (by decide) (by decide) (by omega)) as1.2⟩ (by unfold zAr2; rw [if_pos (decide_eq_true hg), if_pos (show (0 ≤ r ∧ r < H 40 1) ∧ 0 ≤ s ∧ s < H 40 1 from ⟨hr, hs⟩), if_neg hne])
        rw [f2 81 0 (by decide) (by decide) (by decide) (by decide), f1 81 0 (by decide) (by decide) (by decide) (by decide) (by decide)]; rfl
      · have hs := hgg hs
        rw [c174_4]
        exact ⟨fun q => absurd rfl q, fun _ => h1 4 (zPM_n zmf_rfl (by unfold zAr2; rw [if_pos (decide_eq_true hg), if_pos (show (0 ≤ r ∧ r < H 40 1) ∧ 0 ≤ s ∧ s < H 40 1 from ⟨hr, hs⟩), if_pos hne]))⟩
      · have hs := hgn hs
        rw [c174_2]
        exact ⟨fun q => absurd rfl q, fun _ => s2 hg (fun z => hs z.2)⟩
  · have hg := hgn hg
    rw [c174_1]
    exact ⟨fun q => absurd rfl q, fun _ => h1 1 (zPM_n zmf_rfl (by unfold zAr2; rw [decide_eq_false hg, if_neg (by decide)]))⟩
-- duel, by the class
theorem c134 {o1 o2 : Int} {a b : List Int × Int × Int} {K : Int → zHt → Prop} (h1 : zisW o1) (h2 : zisW o2) (ha : zRowOk a) (hb : zRowOk b) (wa : zWalkIs H o1 a) (wb : zWalkIs H o2 b) : zclI w d 134 [zR o1, zR o2] H K = K (zcn (zPab a.1 b.1) (zmi a.1.length b.1.length) 0 : Int) H := by
  have ka := ha.2.1
  have kb := hb.2.1
  have hmi : zmi a.1.length b.1.length ≤ a.1.length ∧ zmi a.1.length b.1.length ≤ b.1.length ∧ (zmi a.1.length b.1.length = a.1.length ∨ zmi a.1.length b.1.length = b.1.length) := by unfold zmi; split <;> omega
  have L : ∀ (c k f : Nat) (K : Int → zHt → Prop), k + c = zmi a.1.length b.1.length → f + c ≤ 300 → K ((f + zcn (zPab a.1 b.1) c k : Nat) : Int) H → zgo w d 134 4 [zR o1, zR o2, zI f, zI k] [] H (zQI K) := by
    intro c
    induction c with
    | zero =>
      intro k f K hk hf h
      refine x134_4 h1 h2 ⟨fun _ => h, fun q => ⟨fun _ => h, fun q2 => ?_⟩⟩
      rw [wa.1] at q; rw [wb.1] at q2; omega
    | succ c ih =>
      intro k f K hk hf h
      refine x134_4 h1 h2 ⟨fun q => by rw [wa.1] at q; omega, fun _ => ⟨fun q => by rw [wb.1] at q; omega, fun _ => ⟨by omega, ?_⟩⟩⟩
      rw [wa.2.2.2 k (by omega), wb.2.2.2 k (by omega), zi0 (by omega), zi1 (by omega), zi1 (by omega)]
      refine ⟨fun q => ?_, fun q => ?_⟩
      · rw [zcn_f (decide_eq_false (by omega))] at h
        exact ih (k + 1) f K (by omega) (by omega) h
      · rw [zcn_t (decide_eq_true q)] at h
        exact ih (k + 1) (f + 1) K (by omega) (by omega) (by rw [show f + 1 + zcn (zPab a.1 b.1) c (k + 1) = f + (zcn (zPab a.1 b.1) c (k + 1) + 1) by omega]; exact h)
  exact zclI_eq fun K h => x134_0 h1 h2 (L (zmi a.1.length b.1.length) 0 0 K (by omega) (by omega) (by rw [Nat.zero_add]; exact h))
theorem c136 {a b : Int} {K : Int → zHt → Prop} : zclI w d 136 [zI a, zI b] H K = K (zcmp3 a b) H := zclI_eq fun K h => x136_0 (by
  unfold zcmp3 at h
  refine ⟨fun q => ⟨fun q2 => ?_, fun q2 => ?_⟩, fun q => ?_⟩
  · rw [if_neg (by omega), if_neg q2] at h; exact h
  · rw [if_neg (by omega), if_pos q2] at h; exact h
  · rw [if_pos q] at h; exact h)
theorem zcmp3_v {a b : Int} : (zcmp3 a b = -1 ∧ a < b) ∨ (zcmp3 a b = 0 ∧ a = b) ∨ (zcmp3 a b = 1 ∧ b < a) := by
  unfold zcmp3
  split
  · exact Or.inl ⟨rfl, by omega⟩
  · split
    · exact Or.inr (Or.inl ⟨rfl, by omega⟩)
    · exact Or.inr (Or.inr ⟨rfl, by omega⟩)
theorem c135 {o1 o2 : Int} {a b : List Int × Int × Int} {K : Int → zHt → Prop} (h1 : zisW o1) (h2 : zisW o2) (ha : zRowOk a) (hb : zRowOk b) (wa : zWalkIs H o1 a) (wb : zWalkIs H o2 b) : zclI w (d + 1) 135 [zR o1, zR o2] H K = K (ztn a.1 b.1 (zmi a.1.length b.1.length) 0 0 0 : Int) H := by
  have ka := ha.2.1
  have kb := hb.2.1
  have hmi : zmi a.1.length b.1.length ≤ a.1.length ∧ zmi a.1.length b.1.length ≤ b.1.length ∧ (zmi a.1.length b.1.length = a.1.length ∨ zmi a.1.length b.1.length = b.1.length) := by unfold zmi; split <;> omega
  have L : ∀ (c k f : Nat) (la : Int) (K : Int → zHt → Prop), k + c = zmi a.1.length b.1.length → f + c ≤ 300 → (la = -1 ∨ la = 0 ∨ la = 1) → K (ztn a.1 b.1 c k la f : Int) H → zgo w (d + 1) 135 7 [zR o1, zR o2, zI f, zI la, zI k, zJ] [] H (zQI K) := by
    intro c
    induction c with
    | zero =>
      intro k f la K hk hf hla h
      refine x135_7 h1 h2 ⟨fun _ => h, fun q => ⟨fun _ => h, fun q2 => ?_⟩⟩
      rw [wa.1] at q; rw [wb.1] at q2; omega
    | succ c ih =>
      intro k f la K hk hf hla h
      have h : K ((if zcmp3 (a.1.getD k 0) (b.1.getD k 0) = 0 then ztn a.1 b.1 c (k + 1) la f else ztn a.1 b.1 c (k + 1) (zcmp3 (a.1.getD k 0) (b.1.getD k 0)) (if ¬ la = 0 ∧ ¬ la = zcmp3 (a.1.getD k 0) (b.1.getD k 0) then f + 1 else f) : Nat) : Int) H := h
      refine x135_7 h1 h2 ⟨fun q => by rw [wa.1] at q; omega, fun _ => ⟨fun q => by rw [wb.1] at q; omega, fun _ => ⟨by omega, ?_⟩⟩⟩
      rw [wa.2.2.2 k (by omega), wb.2.2.2 k (by omega), c136, zi0 (by omega), zi1 (by omega)]
      have hv := zcmp3_v (a := a.1.getD k 0) (b := b.1.getD k 0)
      generalize zcmp3 (a.1.getD k 0) (b.1.getD k 0) = x at *
      have nx : ∀ f' : Nat, f' + c ≤ 300 → (if ¬ la = 0 ∧ ¬ la = x then f + 1 else f) = f' → ¬ x = 0 → zgo w (d + 1) 135 7 [zR o1, zR o2, zI f', zI x, zI ((k + 1 : Nat) : Int), zJ] [] H (zQI K) := fun f' hf' ef hx => by
        rw [if_neg hx, ef] at h
        exact ih (k + 1) f' x K (by omega) hf' (by omega) h
      refine ⟨fun q => ⟨fun q2 => nx f (by omega) (if_neg (by omega)) q, fun q2 => ⟨fun q3 => ?_, fun q3 => ?_⟩⟩, fun q => ?_⟩
      · refine x135_67 h1 h2 ?_
        rw [zi0 (by omega), zi1 (by omega), zi1 (by omega)]
        exact ⟨fun q4 => ⟨fun _ => nx f (by omega) (if_neg (by omega)) q, fun q5 => absurd rfl q5⟩, fun q4 => ⟨fun q5 => absurd q5 (by decide), fun _ => nx (f + 1) (by omega) (if_pos (by omega)) q⟩⟩
      · refine x135_67 h1 h2 ?_
        rw [zi0 (by omega), zi1 (by omega), zi1 (by omega)]
        exact ⟨fun q4 => ⟨fun q5 => absurd q5 (by decide), fun _ => nx (f + 1) (by omega) (if_pos (by omega)) q⟩, fun q4 => ⟨fun _ => nx f (by omega) (if_neg (by omega)) q, fun q5 => absurd rfl q5⟩⟩
      · rw [if_pos q] at h
        exact ih (k + 1) f la K (by omega) (by omega) hla h
  exact zclI_eq fun K h => x135_0 h1 h2 (L (zmi a.1.length b.1.length) 0 0 0 K (by omega) (by omega) (by omega) h)
theorem zmi_comm {a b : Nat} : zmi b a = zmi a b := by unfold zmi; split <;> split <;> omega
theorem b133 {r s t : Int} (hMR : zMR) (hD : zDk H) (hW : zWlk H) : zclI w (d + 6) 133 [zR 32, zI r, zI s, zI t] H (zPC H (zAr2 H (decide (0 ≤ t ∧ t ≤ 3)) r s (zfdu t))) := by
  have h6 := hD.2.2.2.2.2.1
  unfold zAr2
  refine x133_0 ?_
  simp only [c44, c106 h6.2, zit0, Classical.not_not]
  refine ⟨fun hg => ⟨fun hr => ?_, fun hr => ⟨fun hs => ⟨fun hne => zwalk2 hMR hD hW hr hs hne (fun o1 o2 H1 h1 h2 hF wa wb => ?_), fun hne => ?_⟩, fun hs => ?_⟩⟩, fun hg => ?_⟩
  · rw [if_pos (decide_eq_true hg), if_neg (fun z => hr z.1)]; exact zPC_r zcf_rfl rfl
  · rw [if_pos (decide_eq_true hg), if_pos (show (0 ≤ r ∧ r < H 40 1) ∧ 0 ≤ s ∧ s < H 40 1 from ⟨hr, hs⟩), if_neg hne]
    have ha := zRW_ok hMR hD hr
    have hb := zRW_ok hMR hD hs
    unfold zfdu
    rw [c134 h1 h2 ha hb wa wb, c134 h2 h1 hb ha wb wa, c135 (d := d + 4) h1 h2 ha hb wa wb, wa.1, wb.1, zmi_comm (a := (zRW H r).1.length) (b := (zRW H s).1.length)]
    have k1 := ha.1
    have k2 := ha.2.1
    have k3 := hb.1
    have k4 := hb.2.1
    have em : w32 ((if ((zRW H s).1.length : Int) < ((zRW H r).1.length : Int) then ((zRW H s).1.length : Int) else ((zRW H r).1.length : Int)) - 1) = (zmi (zRW H r).1.length (zRW H s).1.length : Int) - 1 := by
      unfold zmi
      by_cases z : (zRW H s).1.length < (zRW H r).1.length
      · rw [if_pos z, if_pos (by omega), w32_id (by omega)]
      · rw [if_neg z, if_neg (by omega), w32_id (by omega)]
    rw [em]
    exact ⟨fun q => zPC_d hF (by rw [if_neg (by omega), if_neg (by omega), if_neg (by omega)]), fun q => zPC_d hF (by rw [if_pos q]), fun q => zPC_d hF (by rw [if_neg (by omega), if_pos q]), fun q => zPC_d hF (by rw [if_neg (by omega), if_neg (by omega), if_pos q])⟩
  · rw [if_pos (decide_eq_true hg), if_pos (show (0 ≤ r ∧ r < H 40 1) ∧ 0 ≤ s ∧ s < H 40 1 from ⟨hr, hs⟩), if_pos hne]; exact zPC_r zcf_rfl rfl
  · rw [if_pos (decide_eq_true hg), if_neg (fun z => hs z.2)]; exact zPC_r zcf_rfl rfl
  · rw [decide_eq_false hg, if_neg (by decide)]; exact zPC_r zcf_rfl rfl
-- duel, by the model
theorem b245l {H0 : zHt} {t : Int} {va vb : List Int} {n : Nat} {A : Int × Int} (hn : n ≤ 101 ∧ n ≤ va.length ∧ n ≤ vb.length) (hF : zmf H0 H) (hs : H 81 0 = 0) (hA : zArr H 94 va) (hB : zArr H 95 vb) (ht : 0 ≤ t ∧ t ≤ 3) : ∀ (c k x y f : Nat) (la who : Int), k + c = n → x + c ≤ 300 → y + c ≤ 300 → f + c ≤ 300 → ((la = 0 ∧ who = 0) ∨ (la = 1 ∧ who = 1) ∨ (la = -1 ∧ who = 2)) → (t = 0 → A = (0, ((x + zcn (zPab va vb) c k : Nat) : Int))) → (t = 1 → A = (0, ((y + zcn (zPab vb va) c k : Nat) : Int))) → (t = 2 → A = (0, (ztn va vb c k la f : Int))) → (t = 3 → A = (0, (n : Int) - 1)) → zgo w (d + 1) 245 59 [zR 81, zJ, zJ, zI t, zI n, zI x, zI y, zI f, zI who, zI k, zJ] [] H (zQI (zPM H0 A)) := by
  intro c
  induction c with
  | zero =>
    intro k x y f la who hk hx hy hf hw a0 a1 a2 a3
    refine x245_59 ⟨fun _ => ⟨fun q => ⟨fun q2 => ⟨fun q3 => ?_, fun q3 => zPM_0 hF hs (a2 q3)⟩, fun q2 => zPM_0 hF hs (a1 q2)⟩, fun q => zPM_0 hF hs (a0 q)⟩, fun q => by omega⟩
    rw [w32_id (by omega)]
    exact zPM_0 hF hs (a3 (by omega))
  | succ c ih =>
    intro k x y f la who hk hx hy hf hw a0 a1 a2 a3
    have hv := zcmp3_v (a := va.getD k 0) (b := vb.getD k 0)
    unfold ztn at a2
    have B : ∀ (i x' y' : Nat) (s1 : Int), (zcmp3 (va.getD k 0) (vb.getD k 0) = 0 ∧ i = 0 ∨ zcmp3 (va.getD k 0) (vb.getD k 0) = 1 ∧ i = 1 ∨ zcmp3 (va.getD k 0) (vb.getD k 0) = -1 ∧ i = 2) → x' + c ≤ 300 → y' + c ≤ 300 → (y' : Int) = y + s1 → (t = 0 → A = (0, ((x' + zcn (zPab va vb) c (k + 1) : Nat) : Int))) → (t = 1 → A = (0, ((y' + zcn (zPab vb va) c (k + 1) : Nat) : Int))) → zgo w (d + 1) 245 140 [zR 81, zJ, zJ, zI t, zI n, zI x', zJ, zI f, zI who, zI k, zI i] [zI s1, zI y] H (zQI (zPM H0 A)) := fun i x' y' s1 hi hx' hy' hs1 b0 b1 => by
      refine x245_140 ?_
      rw [show w32 ((y : Int) + s1) = (y' : Int) by rw [← hs1]; exact w32_id (by omega), zi0 (by omega), zi1 (by omega), zi1 (by omega)]
      have nx : ∀ (f' : Nat) (la' who' : Int), f' + c ≤ 300 → ((la' = 0 ∧ who' = 0) ∨ (la' = 1 ∧ who' = 1) ∨ (la' = -1 ∧ who' = 2)) → (t = 2 → A = (0, (ztn va vb c (k + 1) la' f' : Int))) → zgo w (d + 1) 245 59 [zR 81, zJ, zJ, zI t, zI n, zI x', zI y', zI f', zI who', zI ((k + 1 : Nat) : Int), zJ] [] H (zQI (zPM H0 A)) := fun f' la' who' z1 z2 z3 => ih (k + 1) x' y' f' la' who' (by omega) hx' hy' z1 z2 b0 b1 z3 a3
      have up : ∀ f' : Nat, (f' = if ¬ la = 0 ∧ ¬ la = zcmp3 (va.getD k 0) (vb.getD k 0) then f + 1 else f) → ¬ i = 0 → zgo w (d + 1) 245 59 [zR 81, zJ, zJ, zI t, zI n, zI x', zI y', zI f', zI i, zI ((k + 1 : Nat) : Int), zJ] [] H (zQI (zPM H0 A)) := fun f' ef i0 => by
        refine nx f' (zcmp3 (va.getD k 0) (vb.getD k 0)) i (by rw [ef]; split <;> omega) (by omega) (fun z => ?_)
        rw [a2 z, if_neg (by omega), ← ef]
      have same : i = 0 → zgo w (d + 1) 245 59 [zR 81, zJ, zJ, zI t, zI n, zI x', zI y', zI f, zI who, zI ((k + 1 : Nat) : Int), zJ] [] H (zQI (zPM H0 A)) := fun i0 => nx f la who (by omega) hw (fun z => by rw [a2 z, if_pos (by omega)])
      refine ⟨fun q => ⟨fun _ => same (by omega), fun q2 => by omega⟩, fun q => ⟨fun q2 => ⟨fun q3 => by omega, fun q3 => up f (by rw [if_neg (by omega)]) (by omega)⟩, fun q2 => ⟨fun q3 => ⟨fun q4 => by omega, fun q4 => up f (by rw [if_neg (by omega)]) (by omega)⟩, fun q3 => ⟨fun q4 => by omega, fun q4 => up (f + 1) (by rw [if_pos (by omega)]) (by omega)⟩⟩⟩⟩
    have e0 : ¬ vb.getD k 0 < va.getD k 0 → (t = 0 → A = (0, ((x + zcn (zPab va vb) c (k + 1) : Nat) : Int))) := fun z q => by rw [a0 q, zcn_f (decide_eq_false z)]
    have e1 : ¬ va.getD k 0 < vb.getD k 0 → (t = 1 → A = (0, ((y + zcn (zPab vb va) c (k + 1) : Nat) : Int))) := fun z q => by rw [a1 q, zcn_f (decide_eq_false z)]
    refine x245_59 ⟨fun q => by omega, fun _ => ⟨by omega, ?_⟩⟩
    rw [hA k (by omega), hB k (by omega)]
    refine ⟨fun q => ⟨fun q2 => x245_109 ⟨fun _ => ⟨fun _ => ?_, fun z => absurd z (by decide)⟩, fun z => absurd z (by decide)⟩, fun q2 => x245_109 ⟨fun _ => ⟨fun z => absurd rfl z, fun _ => ?_⟩, fun z => absurd z (by decide)⟩⟩, fun q => x245_109 ⟨fun z => absurd rfl z, fun _ => ⟨fun _ => ?_, fun z => absurd z (by decide)⟩⟩⟩
    · rw [zi0 (by omega)]
      exact B 0 x y 0 (by omega) (by omega) (by omega) (by omega) (e0 (by omega)) (e1 (by omega))
    · rw [zi0 (by omega)]
      exact B 2 x (y + 1) 1 (by omega) (by omega) (by omega) (by omega) (e0 (by omega)) (fun z => by rw [a1 z, zcn_t (decide_eq_true q2), show y + (zcn (zPab vb va) c (k + 1) + 1) = y + 1 + zcn (zPab vb va) c (k + 1) by omega])
    · rw [zi1 (by omega)]
      exact B 1 (x + 1) y 0 (by omega) (by omega) (by omega) (by omega) (fun z => by rw [a0 z, zcn_t (decide_eq_true q), show x + (zcn (zPab va vb) c (k + 1) + 1) = x + 1 + zcn (zPab va vb) c (k + 1) by omega]) (e1 (by omega))
theorem b245 {r s t : Int} (hMR : zMR) (hD : zDk H) : zclI w (d + 7) 245 [zR 81, zI r, zI s, zI t] H (zPM H (zAr2 H (decide (0 ≤ t ∧ t ≤ 3)) r s (zfdu t))) := by
  refine x245_0 ?_
  rw [c173]
  refine c246 (f := zfdu t) hMR hD (fun hg hr hs H1 hF h0 hm ha e => ?_) (fun q h => ⟨fun z => absurd rfl z, fun _ => h⟩)
  rw [e]
  have oa := zRW_ok hMR hD hr
  have ob := zRW_ok hMR hD hs
  have k2 := oa.2.1
  have k4 := ob.2.1
  have hmi : zmi (zRW H r).1.length (zRW H s).1.length ≤ (zRW H r).1.length ∧ zmi (zRW H r).1.length (zRW H s).1.length ≤ (zRW H s).1.length := by unfold zmi; split <;> omega
  have F : zgo w (d + 7) 245 59 [zR 81, zJ, zJ, zI t, zI (zmi (zRW H r).1.length (zRW H s).1.length), zI 0, zI 0, zI 0, zI 0, zI 0, zJ] [] H1 (zQI (zPM H (zfdu t (zRW H r) (zRW H s)))) := by
    unfold zfdu
    exact b245l (d := d + 6) ⟨by omega, hmi.1, hmi.2⟩ hF h0 hm.2.2.2 ha.2 hg (zmi (zRW H r).1.length (zRW H s).1.length) 0 0 0 0 0 0 (by omega) (by omega) (by omega) (by omega) (by omega) (fun z => by rw [if_pos z, Nat.zero_add]) (fun z => by rw [if_neg (by omega), if_pos z, Nat.zero_add]) (fun z => by rw [if_neg (by omega), if_neg (by omega), if_pos z]) (fun z => by rw [if_neg (by omega), if_neg (by omega), if_neg (by omega)])
  refine ⟨fun _ => ?_, fun q => absurd q (by decide)⟩
  rw [ha.1, hm.1]
  refine ⟨fun q => ?_, fun q => ?_⟩
  · have em : zmi (zRW H r).1.length (zRW H s).1.length = (zRW H s).1.length := by unfold zmi; split <;> omega
    rw [em] at F; exact F
  · have em : zmi (zRW H r).1.length (zRW H s).1.length = (zRW H r).1.length := by unfold zmi; split <;> omega
    rw [em] at F; exact F
-- meets
theorem b137l {H0 : zHt} {t o1 o2 : Int} {a b : List Int × Int × Int} {A : Int × Int} (ht : 0 ≤ t ∧ t ≤ 2) (h1 : zisW o1) (h2 : zisW o2) (ha : zRowOk a) (hb : zRowOk b) (hF : zcf H0 H) (wa : zWalkIs H o1 a) (wb : zWalkIs H o2 b) : ∀ (c k : Nat), k + c = a.1.length → zmt t a.1 b.1 c k = A → zgo w (d + 1) 137 64 [zR 32, zJ, zJ, zI t, zR o1, zR o2, zI k, zJ] [] H (zQI (zPC H0 A)) := by
  have ka := ha.2.1
  have kb := hb.2.1
  intro c
  induction c with
  | zero =>
    intro k hk hA
    exact x137_64 h1 h2 ⟨fun _ => zPC_r hF hA.symm, fun q => by rw [wa.1] at q; omega⟩
  | succ c ih =>
    intro k hk hA
    unfold zmt at hA
    refine x137_64 h1 h2 ⟨fun q => by rw [wa.1] at q; omega, fun _ => ⟨by omega, ?_⟩⟩
    rw [wa.2.2.2 k (by omega), c110 h2 wb.1 kb wb.2.2.2, zi1 (by omega)]
    refine ⟨fun q => ?_, fun q => ⟨fun q2 => ⟨fun q3 => ?_, fun q3 => ?_⟩, fun q2 => ?_⟩⟩
    · rw [if_pos q] at hA; exact ih (k + 1) (by omega) hA
    · rw [if_neg q, if_neg q2, if_neg q3] at hA; exact zPC_d hF hA.symm
    · rw [if_neg q, if_neg q2, if_pos q3] at hA; exact zPC_d hF hA.symm
    · rw [if_neg q, if_pos q2] at hA
      rw [wa.2.2.2 k (by omega)]; exact zPC_d hF hA.symm
theorem b137 {r s t : Int} (hMR : zMR) (hD : zDk H) (hW : zWlk H) : zclI w (d + 6) 137 [zR 32, zI r, zI s, zI t] H (zPC H (zAr2 H (decide (0 ≤ t ∧ t ≤ 2)) r s (zfme t))) := by
  have h6 := hD.2.2.2.2.2.1
  unfold zAr2
  refine x137_0 ?_
  simp only [c44, c106 h6.2, zit0, Classical.not_not]
  refine ⟨fun hg => ⟨fun hr => ?_, fun hr => ⟨fun hs => ⟨fun hne => zwalk2 hMR hD hW hr hs hne (fun o1 o2 H1 h1 h2 hF wa wb => ?_), fun hne => ?_⟩, fun hs => ?_⟩⟩, fun hg => ?_⟩
  · rw [if_pos (decide_eq_true hg), if_neg (fun z => hr z.1)]; exact zPC_r zcf_rfl rfl
  · rw [if_pos (decide_eq_true hg), if_pos (show (0 ≤ r ∧ r < H 40 1) ∧ 0 ≤ s ∧ s < H 40 1 from ⟨hr, hs⟩), if_neg hne]
    exact b137l (d := d + 5) hg h1 h2 (zRW_ok hMR hD hr) (zRW_ok hMR hD hs) hF wa wb (zRW H r).1.length 0 (by omega) rfl
  · rw [if_pos (decide_eq_true hg), if_pos (show (0 ≤ r ∧ r < H 40 1) ∧ 0 ≤ s ∧ s < H 40 1 from ⟨hr, hs⟩), if_pos hne]; exact zPC_r zcf_rfl rfl
  · rw [if_pos (decide_eq_true hg), if_neg (fun z => hs z.2)]; exact zPC_r zcf_rfl rfl
  · rw [decide_eq_false hg, if_neg (by decide)]; exact zPC_r zcf_rfl rfl
theorem c248 {v : Int} {vs : List Int} {K : Int → zHt → Prop} (h1 : H 81 24 = vs.length) (h9 : vs.length ≤ 101) (hA : zArr H 95 vs) : zclI w d 248 [zR 81, zI v] H K = K (zplc v vs 0) H := by
  have L : ∀ (suf pre : List Int) (K : Int → zHt → Prop), vs = pre ++ suf → K (zplc v suf pre.length) H → zgo w d 248 2 [zR 81, zI v, zI pre.length] [] H (zQI K) := by
    intro suf
    induction suf with
    | nil =>
      intro pre K hl h
      have hlen : vs.length = pre.length := by rw [hl, List.append_nil]
      exact x248_2 ⟨fun _ => h, fun q => by omega⟩
    | cons x suf ih =>
      intro pre K hl h
      have hlen : vs.length = pre.length + (suf.length + 1) := by rw [hl, List.length_append]; rfl
      have hx : H 95 (pre.length : Int) = x := by
        rw [hA pre.length (by omega), hl, List.getD_eq_getElem?_getD, List.getElem?_append_right (Nat.le_refl _), Nat.sub_self]; rfl
      unfold zplc at h
      refine x248_2 ⟨fun q => by omega, fun _ => ⟨by omega, fun q => ?_, fun q => ?_⟩⟩
      · rw [hx] at q
        rw [if_neg q] at h
        rw [show w32 ((pre.length : Int) + 1) = ((pre ++ [x]).length : Int) by rw [w32_id (by omega), List.length_append]; simp]
        refine ih (pre ++ [x]) K (by rw [hl]; simp) ?_
        rw [show ((pre ++ [x]).length : Int) = (pre.length : Int) + 1 by rw [List.length_append]; simp]
        exact h
      · rw [hx] at q
        rw [if_pos q] at h; exact h
  exact zclI_eq fun K h => x248_0 (L vs [] K rfl h)
theorem b247l {H0 : zHt} {t : Int} {a b : List Int × Int × Int} {A : Int × Int} (ht : 0 ≤ t ∧ t ≤ 2) (ha : zRowOk a) (hb : zRowOk b) (hF : zmf H0 H) (hs : H 81 0 = 0) (wa : zMrow H a) (wb : zAside H b.1) : ∀ (c k : Nat), k + c = a.1.length → zmt t a.1 b.1 c k = A → zgo w (d + 1) 247 23 [zR 81, zJ, zJ, zI t, zI k, zJ] [] H (zQI (zPM H0 A)) := by
  have ka := ha.2.1
  have kb := hb.2.1
  intro c
  induction c with
  | zero =>
    intro k hk hA
    exact x247_23 ⟨fun _ => zPM_r hF hA.symm, fun q => by rw [wa.1] at q; omega⟩
  | succ c ih =>
    intro k hk hA
    unfold zmt at hA
    have hp := zplc_r (v := a.1.getD k 0) (l := b.1) (k := 0)
    refine x247_23 ⟨fun q => by rw [wa.1] at q; omega, fun _ => ⟨by omega, ?_⟩⟩
    rw [wa.2.2.2 k (by omega), c248 wb.1 kb wb.2, zi1 (by omega)]
    refine ⟨fun q => ?_, fun q => ⟨fun q2 => ⟨fun q3 => ?_, fun q3 => ?_⟩, fun q2 => ?_⟩⟩
    · rw [if_pos (by omega)] at hA; exact ih (k + 1) (by omega) hA
    · rw [if_neg (by omega), if_neg q2, if_neg q3] at hA; exact zPM_0 hF hs hA.symm
    · rw [if_neg (by omega), if_neg q2, if_pos q3] at hA; exact zPM_0 hF hs hA.symm
    · rw [if_neg (by omega), if_pos q2] at hA
      rw [wa.2.2.2 k (by omega)]; exact zPM_0 hF hs hA.symm
theorem b247 {r s t : Int} (hMR : zMR) (hD : zDk H) : zclI w (d + 7) 247 [zR 81, zI r, zI s, zI t] H (zPM H (zAr2 H (decide (0 ≤ t ∧ t ≤ 2)) r s (zfme t))) := by
  refine x247_0 ?_
  rw [c173]
  refine c246 (f := zfme t) hMR hD (fun hg hr hs H1 hF h0 hm ha e => ?_) (fun q h => ⟨fun z => absurd rfl z, fun _ => h⟩)
  rw [e]
  exact ⟨fun _ => b247l (d := d + 6) hg (zRW_ok hMR hD hr) (zRW_ok hMR hD hs) hF h0 hm ha (zRW H r).1.length 0 (by omega) rfl, fun q => absurd q (by decide)⟩
-- splits
theorem c131 {o1 o2 : Int} {a b : List Int × Int × Int} {K : Int → zHt → Prop} (h1 : zisW o1) (h2 : zisW o2) (ha : zRowOk a) (hb : zRowOk b) (wa : zWalkIs H o1 a) (wb : zWalkIs H o2 b) : zclI w d 131 [zR o1, zR o2] H K = K (if zsp a.1 b.1 (zmi a.1.length b.1.length) 0 = a.1.length ∧ zsp a.1 b.1 (zmi a.1.length b.1.length) 0 = b.1.length then -1 else (zsp a.1 b.1 (zmi a.1.length b.1.length) 0 : Int)) H := by
  have ka := ha.2.1
  have kb := hb.2.1
  have hmi : zmi a.1.length b.1.length ≤ a.1.length ∧ zmi a.1.length b.1.length ≤ b.1.length ∧ (zmi a.1.length b.1.length = a.1.length ∨ zmi a.1.length b.1.length = b.1.length) := by unfold zmi; split <;> omega
  have e0 : (if H o2 1 < H o1 1 then H o2 1 else H o1 1) = (zmi a.1.length b.1.length : Int) := by
    rw [wa.1, wb.1]; unfold zmi
    by_cases z : b.1.length < a.1.length
    · rw [if_pos z, if_pos (by omega)]
    · rw [if_neg z, if_neg (by omega)]
  generalize zmi a.1.length b.1.length = n at *
  have L : ∀ (c k : Nat) (K : Int → zHt → Prop), k + c = n → K (if zsp a.1 b.1 c k = a.1.length ∧ zsp a.1 b.1 c k = b.1.length then -1 else (zsp a.1 b.1 c k : Int)) H → zgo w d 131 14 [zR o1, zR o2, zI n, zI k] [] H (zQI K) := by
    intro c
    induction c with
    | zero =>
      intro k K hk h
      have h : K (if k = a.1.length ∧ k = b.1.length then -1 else (k : Int)) H := h
      refine x131_14 h1 h2 ⟨fun _ => ⟨fun q => ?_, fun q => ?_⟩, fun q => by omega⟩
      · rw [wa.1, wb.1] at q
        rw [if_neg (by omega)] at h
        rw [show n = k by omega]; exact h
      · rw [wa.1, wb.1] at q
        rw [if_pos (by omega)] at h; exact h
    | succ c ih =>
      intro k K hk h
      unfold zsp at h
      refine x131_14 h1 h2 ⟨fun q => by omega, fun _ => ⟨by omega, ?_⟩⟩
      rw [wa.2.2.2 k (by omega), wb.2.2.2 k (by omega), zi1 (by omega)]
      refine ⟨fun q => ?_, fun q => ?_⟩
      · rw [if_pos q] at h; exact ih (k + 1) K (by omega) h
      · rw [if_neg q, if_neg (by omega)] at h; exact h
  exact zclI_eq fun K h => x131_0 h1 h2 (by rw [e0]; exact L n 0 K (by omega) h)
theorem c114 {o : Int} {r : List Int × Int × Int} {K : Int → zHt → Prop} (ho : zisW o) (hok : zRowOk r) (hw : zWalkIs H o r) : zclI w d 114 [zR o] H K = K (r.1.getD (r.1.length - 1) 0) H := by
  have k1 := hok.1
  have k2 := hok.2.1
  have e1 : w32 ((r.1.length : Int) - 1) = ((r.1.length - 1 : Nat) : Int) := by rw [w32_id (by omega)]; omega
  have e2 : (if (0 : Int) < ((r.1.length - 1 : Nat) : Int) then ((r.1.length - 1 : Nat) : Int) else 0) = ((r.1.length - 1 : Nat) : Int) := by
    split <;> omega
  refine zclI_eq fun K h => x114_0 ho ?_
  rw [hw.1, e1, e2, hw.2.2.2 (r.1.length - 1) (by omega)]
  exact ⟨by omega, h⟩
theorem zkeep_wkf46 {H1 : zHt} (f : zwkf 46 H H1) : zkeep H H1 := fun a j q => f a j (fun z => by subst z; cases q) (fun z => by subst z; cases q) (fun z => by obtain ⟨rfl, rfl⟩ := z; cases q) (fun z => by subst z; cases q) (fun z => by subst z; cases q)
theorem zcf_46 {H1 : zHt} (f : zwkf 46 H H1) : zcf H H1 := ⟨zRk_of (zkeep_wkf46 f), f 81 0 (by decide) (by decide) (by decide) (by decide) (by decide)⟩
theorem b130 {r l t : Int} (hMR : zMR) (hD : zDk H) (hW : zWlk H) : zclI w (d + 6) 130 [zR 32, zI r, zI l, zI t] H (zPC H (zAspl H r l t)) := by
  have h6 := hD.2.2.2.2.2.1
  unfold zAspl
  refine x130_0 ?_
  simp only [c44, c106 h6.2, zit0, Classical.not_not]
  refine ⟨fun hl => ?_, fun hl => ⟨fun hg => ⟨fun hr => ⟨fun hne => ?_, fun hne => ?_⟩, fun hr => ?_⟩, fun hg => ?_⟩⟩
  · rw [if_neg (fun z => hl z.1)]; exact zPC_r zcf_rfl rfl
  · rw [if_pos ⟨hl, hg⟩, if_pos hr, if_neg hne]
    refine zwalk hMR hD hW hr (fun o H1 ho eo hF hw => ?_)
    have k1 := hF.1.1
    obtain ⟨-, r1, r2⟩ := zDk_row hD hr
    obtain ⟨H2, ⟨f2, -, w2⟩, e2⟩ := c109 (w := w) (d := d + 1) (H := H1) (o := 46) (n := H 41 r) (law := l) hMR (Or.inl rfl) hl (by rw [k1 40 2 rfl]; exact hD.2.2.2.2.2.2.1.2) (by rw [k1 40 3 rfl]; exact hD.2.2.2.2.2.2.2.1) ⟨r1, r2⟩
    rw [k1 40 2 rfl, k1 40 3 rfl] at w2
    have hob := zisW_b ho
    have w1 : zWalkIs H2 o (zRW H r) := by
      have fa : ∀ j, H2 o j = H1 o j := fun j => f2 o j (by omega) (by omega) (by omega) (by omega) (by omega)
      have fb : ∀ j, H2 (o + 1) j = H1 (o + 1) j := fun j => f2 (o + 1) j (by omega) (by omega) (by omega) (by omega) (by omega)
      exact ⟨by rw [fa]; exact hw.1, by rw [fa]; exact hw.2.1, by rw [fa]; exact hw.2.2.1, zArr_eq (fun k _ => fb k) hw.2.2.2⟩
    have okA := zRW_ok hMR hD hr
    have okB := zrow_ok (law := l) (bound := H 40 2) (steps := H 40 3) (n := H 41 r) hMR hl hD.2.2.2.2.2.2.1.2 hD.2.2.2.2.2.2.2.1.2 ⟨r1, r2⟩
    have hF2 := zcf_tr hF (zcf_46 f2)
    rw [k1 41 r rfl, e2]
    refine ⟨by omega, ?_⟩
    unfold zfspl
    have h46 : zisW 46 := Or.inl rfl
    rw [c114 h46 okB w2, c131 ho h46 okA okB w1 w2, w2.1, w2.2.1]
    refine ⟨fun q => zPC_d hF2 (by rw [if_neg (by omega), if_neg (by omega), if_neg (by omega)]), fun q => ?_, fun q => zPC_d hF2 (by rw [if_neg (by omega), if_pos q]), fun q => zPC_d hF2 (by rw [if_neg (by omega), if_neg (by omega), if_pos q])⟩
    rw [if_pos q]
    by_cases z : zsp (zRW H r).1 (zrow l (H 40 2) (H 40 3) (H 41 r)).1 (zmi (zRW H r).1.length (zrow l (H 40 2) (H 40 3) (H 41 r)).1.length) 0 = (zRW H r).1.length ∧ zsp (zRW H r).1 (zrow l (H 40 2) (H 40 3) (H 41 r)).1 (zmi (zRW H r).1.length (zrow l (H 40 2) (H 40 3) (H 41 r)).1.length) 0 = (zrow l (H 40 2) (H 40 3) (H 41 r)).1.length
    · rw [if_pos z, if_pos z]
      exact ⟨fun y => absurd rfl y, fun _ => zPC_r hF2 rfl⟩
    · rw [if_neg z, if_neg z]
      exact ⟨fun _ => zPC_d hF2 rfl, fun y => by omega⟩
  · rw [if_pos ⟨hl, hg⟩, if_pos hr, if_pos hne]; exact zPC_r zcf_rfl rfl
  · rw [if_pos ⟨hl, hg⟩, if_neg hr]; exact zPC_r zcf_rfl rfl
  · rw [if_neg (fun z => hg z.2)]; exact zPC_r zcf_rfl rfl
theorem b243l {H0 : zHt} {a b : List Int × Int × Int} {A : Int × Int} (ha : zRowOk a) (hb : zRowOk b) (hF : zmf H0 H) (hs : H 81 0 = 0) (wa : zAside H a.1) (wb : zMrow H b) : ∀ (c k : Nat), k + c = zmi a.1.length b.1.length → (if zsp a.1 b.1 c k = a.1.length ∧ zsp a.1 b.1 c k = b.1.length then ((5 : Int), (-1 : Int)) else (0, (zsp a.1 b.1 c k : Int))) = A → zgo w (d + 1) 243 136 [zR 81, zJ, zJ, zJ, zJ, zI k] [] H (zQI (zPM H0 A)) := by
  have ka := ha.2.1
  have kb := hb.2.1
  have hmi : zmi a.1.length b.1.length ≤ a.1.length ∧ zmi a.1.length b.1.length ≤ b.1.length ∧ (zmi a.1.length b.1.length = a.1.length ∨ zmi a.1.length b.1.length = b.1.length) := by unfold zmi; split <;> omega
  generalize zmi a.1.length b.1.length = n at *
  intro c
  induction c with
  | zero =>
    intro k hk hA
    have hA : (if k = a.1.length ∧ k = b.1.length then ((5 : Int), (-1 : Int)) else (0, (k : Int))) = A := hA
    have E : (¬ (k : Int) = H 81 21 → zPM H0 A k H) ∧ ((k : Int) = H 81 21 → (¬ (k : Int) = H 81 24 → zPM H0 A k H) ∧ ((k : Int) = H 81 24 → zclI w d 178 [zR 81, zI 5] H (fun x H1 => zPM H0 A x H1))) := by
      rw [wb.1, wa.1]
      refine ⟨fun q => ?_, fun q => ⟨fun q2 => ?_, fun q2 => ?_⟩⟩
      · rw [if_neg (by omega)] at hA; exact zPM_0 hF hs hA.symm
      · rw [if_neg (by omega)] at hA; exact zPM_0 hF hs hA.symm
      · rw [if_pos (by omega)] at hA; exact zPM_r hF hA.symm
    refine x243_136 ⟨fun _ => E, fun q => ⟨fun _ => E, fun q2 => ?_⟩⟩
    rw [wb.1] at q; rw [wa.1] at q2; omega
  | succ c ih =>
    intro k hk hA
    have ez : zsp a.1 b.1 (c + 1) k = (if a.1.getD k 0 = b.1.getD k 0 then zsp a.1 b.1 c (k + 1) else k) := rfl
    rw [ez] at hA
    refine x243_136 ⟨fun q => by rw [wb.1] at q; omega, fun _ => ⟨fun q => by rw [wa.1] at q; omega, fun _ => ⟨by omega, ?_⟩⟩⟩
    rw [wb.2.2.2 k (by omega), wa.2 k (by omega), zi1 (by omega)]
    refine ⟨fun q => ?_, fun q => ?_⟩
    · rw [if_neg (show ¬ a.1.getD k 0 = b.1.getD k 0 from fun z => q z.symm), if_neg (by omega)] at hA
      rw [wb.1]
      exact ⟨fun _ => zPM_0 hF hs hA.symm, fun q2 => by omega⟩
    · rw [if_pos q.symm] at hA; exact ih (k + 1) (by omega) hA
theorem b243 {r l t : Int} (hMR : zMR) (hD : zDk H) : zclI w (d + 6) 243 [zR 81, zI r, zI l, zI t] H (zPM H (zAspl H r l t)) := by
  have d6 := hD.2.2.2.2.2.1
  have d3 := hD.2.2.1
  unfold zAspl
  refine x243_0 ?_
  rw [c173]
  have no : ∀ s : Int, ∀ A : Int × Int, ¬ s = 0 → A = (s, -1) → zgo w (d + 6) 243 69 [zR 81, zI r, zI l, zI t, zJ, zJ] [zI s, zR 81] H (zQI (zPM H A)) := fun s A h0 e => x243_69 (by
    rw [c174a, if_neg h0]
    exact ⟨fun q => absurd rfl q, fun _ => zPM_n zmf_rfl e⟩)
  refine ⟨fun hg => ?_, fun hg => ?_⟩
  · rw [zit0] at hg
    rw [if_neg (fun z => hg z.2)]
    exact no 1 _ (by decide) rfl
  · rw [zit0, Classical.not_not] at hg
    rw [c173]
    refine ⟨fun hl => ?_, fun hl => ?_⟩
    · rw [zit0] at hl
      rw [if_neg (fun z => hl z.1)]
      exact no 1 _ (by decide) rfl
    · rw [zit0, Classical.not_not] at hl
      rw [if_pos ⟨hl, hg⟩, c223 (by rw [d3]; exact d6), d3]
      refine ⟨fun hr => ⟨fun hne => ?_, fun hne => ?_⟩, fun hr => ?_⟩
      · rw [zit0, Classical.not_not] at hr
        rw [hD.2.1] at hne
        rw [if_pos hr, if_neg hne]
        obtain ⟨e41, r1, r2⟩ := zDk_row hD hr
        have hDz := zDk_zst (s := 0) hD
        obtain ⟨H1, ⟨f1, as1⟩, e1⟩ := c244 (w := w) (d := d) (H := zst H 0) (s := r) hMR hDz (by rw [zst_at (by omega)]; exact hr)
        rw [zRW_zst] at as1
        have k82 : ∀ j : Int, H1 82 j = H 82 j := fun j => (f1 82 j (by omega) (by omega) (by omega) (by omega) (by omega)).trans (zst_at (by omega))
        obtain ⟨H2, ⟨f2, hm⟩, e2⟩ := c227 (w := w) (d := d + 2) (H := H1) (n := H 41 r) (law := l) hMR hl (by rw [k82, hD.2.2.2.1]; exact hD.2.2.2.2.2.2.1.2) (by rw [k82, hD.2.2.2.2.1]; exact hD.2.2.2.2.2.2.2.1) ⟨r1, r2⟩
        rw [k82, k82, hD.2.2.2.1, hD.2.2.2.2.1] at hm
        have okA := zRW_ok hMR hD hr
        have okB := zrow_ok (law := l) (bound := H 40 2) (steps := H 40 3) (n := H 41 r) hMR hl hD.2.2.2.2.2.2.1.2 hD.2.2.2.2.2.2.2.1.2 ⟨r1, r2⟩
        have hF2 : zmf H H2 := zmf_gf (zmf_af (zst_f zmf_rfl) f1) f2
        have hs2 : H2 81 0 = 0 := by rw [f2 81 0 (by decide) (by decide) (by decide) (by decide), f1 81 0 (by decide) (by decide) (by decide) (by decide) (by decide)]; rfl
        have as2 : zAside H2 (zRW H r).1 := ⟨(f2 81 24 (by decide) (by decide) (by decide) (by decide)).trans as1.1, zArr_eq (fun k _ => f2 95 k (by decide) (by decide) (by decide) (by omega)) as1.2⟩
        refine x243_69 ?_
        rw [c174_0]
        refine ⟨fun _ => ?_, fun q => absurd q (by decide)⟩
        rw [e1, k82, e41, e2]
        unfold zfspl
        have kb1 := okB.1
        have kb2 := okB.2.1
        refine ⟨by omega, fun q => ?_, fun q => ⟨fun q2 => ⟨fun q3 => ?_, fun q3 => ?_⟩, fun q2 => ?_⟩⟩
        · exact b243l (d := d + 5) okA okB hF2 hs2 as2 hm (zmi (zRW H r).1.length (zrow l (H 40 2) (H 40 3) (H 41 r)).1.length) 0 (by omega) (by rw [if_pos (show t = 0 by omega)])
        · rw [hm.1, show w32 (((zrow l (H 40 2) (H 40 3) (H 41 r)).1.length : Int) - 1) = (((zrow l (H 40 2) (H 40 3) (H 41 r)).1.length - 1 : Nat) : Int) by rw [w32_id (by omega)]; omega, hm.2.2.2 _ (by omega)]
          exact ⟨by omega, zPM_0 hF2 hs2 (by rw [if_neg (by omega), if_neg q2, if_neg q3])⟩
        · exact zPM_0 hF2 hs2 (by rw [if_neg (by omega), if_neg q2, if_pos q3, hm.2.1])
        · exact zPM_0 hF2 hs2 (by rw [if_neg (by omega), if_pos q2, hm.1])
      · rw [zit0, Classical.not_not] at hr
        rw [hD.2.1] at hne
        rw [if_pos hr, if_pos hne]
        exact no 4 _ (by decide) rfl
      · rw [zit0] at hr
        rw [if_neg hr]
        exact no 2 _ (by decide) rfl
end Z52
theorem l1478 {w : zWt} (hw : w.1 ≤ 3072) (hMR : zMR) : zLaw w (zKept zAllR) 1478 := fun H i hi hR K nx => x0_1478 (d := 1999) (by
  refine ⟨zidx hw hi (by decide) (by decide), zidx hw hi (by decide) (by decide), zidx hw hi (by decide) (by decide), ?_⟩
  have r1 : r32 (zH0 w.2 0 (w32 ((i : Int) + 1))) := zv_r
  generalize zH0 w.2 0 (w32 ((i : Int) + 1)) = v1 at r1 ⊢
  have r2 : r32 (zH0 w.2 0 (w32 ((i : Int) + 2))) := zv_r
  generalize zH0 w.2 0 (w32 ((i : Int) + 2)) = v2 at r2 ⊢
  have r3 : r32 (zH0 w.2 0 (w32 ((i : Int) + 3))) := zv_r
  generalize zH0 w.2 0 (w32 ((i : Int) + 3)) = v3 at r3 ⊢
  exact zcaseI (A := fun H => zAspl H v1 v2 v3) zAspl_con hR (fun hD hW => b130 (d := 1993) hMR hD hW) (fun H1 hD => b243 (d := 1993) hMR hD) (fun x y H' hk e => nx H' hk))
theorem l1554 {w : zWt} (hw : w.1 ≤ 3072) (hMR : zMR) : zLaw w (zKept zAllR) 1554 := fun H i hi hR K nx => x0_1554 (d := 1999) (by
  refine ⟨zidx hw hi (by decide) (by decide), zidx hw hi (by decide) (by decide), zidx hw hi (by decide) (by decide), ?_⟩
  have r1 : r32 (zH0 w.2 0 (w32 ((i : Int) + 1))) := zv_r
  generalize zH0 w.2 0 (w32 ((i : Int) + 1)) = v1 at r1 ⊢
  have r2 : r32 (zH0 w.2 0 (w32 ((i : Int) + 2))) := zv_r
  generalize zH0 w.2 0 (w32 ((i : Int) + 2)) = v2 at r2 ⊢
  have r3 : r32 (zH0 w.2 0 (w32 ((i : Int) + 3))) := zv_r
  generalize zH0 w.2 0 (w32 ((i : Int) + 3)) = v3 at r3 ⊢
  exact zcaseI (A := fun H => zAr2 H (decide (0 ≤ v3 ∧ v3 ≤ 3)) v1 v2 (zfdu v3)) zAr2_con hR (fun hD hW => b133 (d := 1993) hMR hD hW) (fun H1 hD => b245 (d := 1992) hMR hD) (fun x y H' hk e => nx H' hk))
theorem l1597 {w : zWt} (hw : w.1 ≤ 3072) (hMR : zMR) : zLaw w (zKept zAllR) 1597 := fun H i hi hR K nx => x0_1597 (d := 1999) (by
  refine ⟨zidx hw hi (by decide) (by decide), zidx hw hi (by decide) (by decide), zidx hw hi (by decide) (by decide), ?_⟩
  have r1 : r32 (zH0 w.2 0 (w32 ((i : Int) + 1))) := zv_r
  generalize zH0 w.2 0 (w32 ((i : Int) + 1)) = v1 at r1 ⊢
  have r2 : r32 (zH0 w.2 0 (w32 ((i : Int) + 2))) := zv_r
  generalize zH0 w.2 0 (w32 ((i : Int) + 2)) = v2 at r2 ⊢
  have r3 : r32 (zH0 w.2 0 (w32 ((i : Int) + 3))) := zv_r
  generalize zH0 w.2 0 (w32 ((i : Int) + 3)) = v3 at r3 ⊢
  exact zcaseI (A := fun H => zAr2 H (decide (0 ≤ v3 ∧ v3 ≤ 2)) v1 v2 (zfme v3)) zAr2_con hR (fun hD hW => b137 (d := 1993) hMR hD hW) (fun H1 hD => b247 (d := 1992) hMR hD) (fun x y H' hk e => nx H' hk))
