/-! the cases before, touched, record, practical -/
def zfs (H H' : zHt) : Prop := ∀ a j : Int, a ≠ 85 → a ≠ 86 → a ≠ 90 → ¬ (a = 81 ∧ j = 8) → H' a j = H a j
theorem zfs_fm {H0 H H' : zHt} (h : zfs H0 H) (g : zfm H H') : zfs H0 H' := fun a j h1 h2 h3 h4 => (g a j h1 h2 h4).trans (h a j h1 h2 h3 h4)
theorem zfs_up {H0 H : zHt} {i x : Int} (h : zfs H0 H) : zfs H0 (zup H 90 i x) := fun a j h1 h2 h3 h4 => by
  rw [zq_ne (fun q => h3 q.1)]; exact h a j h1 h2 h3 h4
theorem zfs_keep {H H' : zHt} (h : zfs H H') : zkeep H H' := fun a j q => h a j (fun z => by subst z; cases q) (fun z => by subst z; cases q) (fun z => by subst z; cases q) (fun z => by obtain ⟨rfl, rfl⟩ := z; cases q)
theorem zmf_fs {H0 H H1 : zHt} (h : zmf H0 H) (f : zfs H H1) : zmf H0 H1 := zmf_tr h ⟨zfs_keep f, f 32 14 (by decide) (by decide) (by decide) (by decide)⟩
/-- the table of sums -/
def zTab (H : zHt) (law : Int) (m : Nat) : Prop := ∀ i : Nat, 1 ≤ i → i ≤ m → H 90 i = zsum law i
section Z42
variable {w : zWt} {d : Nat} {H : zHt}
theorem c205l {H0 : zHt} {M : Nat} (hM : M ≤ 2000) : ∀ (c m : Nat) (H : zHt), m + c = M + 1 → 1 ≤ m → zfs H0 H → (∀ i : Nat, 1 ≤ i → i < m → H 90 i = zsum (H0 82 9) i) → zgo w (d + 4) 205 2 [zR 81, zI M, zI m] [] H (zQV fun H' => zfs H0 H' ∧ zTab H' (H0 82 9) M) := by
  intro c
  induction c with
  | zero =>
    intro m H hm m1 hf ht
    exact x205_2 ⟨fun _ => ⟨hf, fun i i1 i2 => ht i i1 (by omega)⟩, fun q => by omega⟩
  | succ c ih =>
    intro m H hm m1 hf ht
    obtain ⟨H1, g, e⟩ := c180 (w := w) (H := H) (d := d) (n := m) (by omega) (by omega)
    refine x205_2 ⟨fun q => by omega, fun _ => ?_⟩
    rw [e, zi1 (by omega), hf 82 9 (by decide) (by decide) (by decide) (by decide)]
    refine ⟨by omega, ih (m + 1) _ (by omega) (by omega) (zfs_up (zfs_fm hf g)) (fun i i1 i2 => ?_)⟩
    by_cases z : i = m
    · subst z; rw [zq_eq]
    · rw [zq_ne (fun q => z (by omega)), g 90 i (by decide) (by decide) (by omega)]
      exact ht i i1 (by omega)
theorem c205 {M : Nat} (hM : M ≤ 2000) : ∃ H', (zfs H H' ∧ zTab H' (H 82 9) M) ∧ ∀ K : zHt → Prop, zclV w (d + 4) 205 [zR 81, zI M] H K = K H' :=
  zclV_ex (x205_0 (c205l hM M 1 H (by omega) (by omega) (fun _ _ _ _ _ _ => rfl) (fun i i1 i2 => by omega)))
theorem c206l {law v k : Int} {M : Nat} {K : Int → zHt → Prop} (hM : M ≤ 2000) (hT : zTab H law M) : ∀ (c m f : Nat), m + c = M + 1 → 1 ≤ m → f + c ≤ 3000 → K (zsk (zPsum law v) zhit (zfin k) k c m f).2 H → zgo w d 206 6 [zR 81, zI v, zI M, zI k, zI f, zI m] [] H (zQI K) := by
  intro c
  induction c with
  | zero =>
    intro m f hm m1 hf hK
    have hK : K (zfin k f).2 H := hK
    unfold zfin at hK
    refine x206_6 ⟨fun _ => ⟨fun q => ?_, fun q => ?_⟩, fun q => by omega⟩
    · rw [if_neg q] at hK; exact hK
    · rw [if_pos q] at hK; exact hK
  | succ c ih =>
    intro m f hm m1 hf hK
    refine x206_6 ⟨fun q => by omega, fun _ => ⟨by omega, ?_⟩⟩
    rw [hT m m1 (by omega), zi1 (by omega), zi1 (by omega)]
    refine ⟨fun q2 => ⟨fun q3 => ?_, fun q3 => ?_⟩, fun q2 => ?_⟩
    · rw [zsk_t (decide_eq_true q2) q3] at hK
      exact ih (m + 1) (f + 1) (by omega) (by omega) (by omega) hK
    · rw [zsk_h (decide_eq_true q2) q3] at hK
      exact hK
    · rw [zsk_f (decide_eq_false q2)] at hK
      exact ih (m + 1) f (by omega) (by omega) (by omega) hK
theorem c206 {law v k : Int} {M : Nat} {K : Int → zHt → Prop} (hM : M ≤ 2000) (hT : zTab H law M) : zclI w d 206 [zR 81, zI v, zI M, zI k] H K = K (zsk (zPsum law v) zhit (zfin k) k M 1 0).2 H :=
  zclI_eq fun K h => x206_0 (c206l hM hT M 1 0 (by omega) (by omega) (by omega) h)
/-- how the model ends a look into the table -/
theorem z206e {H0 : zHt} {P : Nat → Bool} {k : Int} {n m f : Nat} {H : zHt} (hF : zmf H0 H) (hs : H 81 0 = 0) : (0 ≤ (zsk P zhit (zfin k) k n m f).2 → zPM H0 (zsk P zhit (zfin k) k n m f) (zsk P zhit (zfin k) k n m f).2 H) ∧ ((zsk P zhit (zfin k) k n m f).2 < 0 → zclI w d 178 [zR 81, zI 5] H (fun x H1 => zPM H0 (zsk P zhit (zfin k) k n m f) x H1)) := by
  rcases zsk_or (P := P) (k := k) (n := n) (m := m) (f := f) with ⟨r, e⟩ | e
  · rw [e]
    exact ⟨fun _ => zPM_0 hF hs rfl, fun q => by have : (r : Int) < 0 := q; omega⟩
  · rw [e]
    exact ⟨fun q => by have : (0 : Int) ≤ -1 := q; omega, fun _ => zPM_r hF rfl⟩
-- before
theorem b85l {H0 : zHt} {v b k : Int} {A : Int × Int} (hMR : zMR) (hD : zDk H0) (hb : b ≤ 2000) (hk : 0 ≤ k) : ∀ (c m f : Nat) (H : zHt), zcf H0 H → (m : Int) + c = b + 1 → 1 ≤ m → f + c ≤ 3000 → zsk (zPsum (H0 40 4) v) zhit (zfin k) k c m f = A → zgo w (d + 5) 85 32 [zR 32, zI v, zI b, zI k, zI f, zI m] [] H (zQI (zPC H0 A)) := by
  intro c
  induction c with
  | zero =>
    intro m f H hF hm m1 hf hA
    refine x85_32 ⟨fun _ => zPC_r hF ?_, fun q => by omega⟩
    rw [← hA]; exact if_neg (by omega)
  | succ c ih =>
    intro m f H hF hm m1 hf hA
    have el : H 40 4 = H0 40 4 := zcf_at hF rfl
    obtain ⟨H1, g, e⟩ := c52 (w := w) (d := d) (H := H) (n := m) hMR (by omega) (by omega) (by rw [el]; exact hD.1)
    refine x85_32 ⟨fun q => by omega, fun _ => ?_⟩
    rw [e, zi1 (by omega), zi1 (by omega), el]
    refine ⟨fun q2 => ⟨fun q3 => ?_, fun q3 => ?_⟩, fun q2 => ?_⟩
    · rw [zsk_t (decide_eq_true q2) q3] at hA
      exact ih (m + 1) (f + 1) H1 (zcf_fc hF g) (by omega) (by omega) (by omega) hA
    · rw [zsk_h (decide_eq_true q2) q3] at hA
      exact zPC_d (zcf_fc hF g) hA.symm
    · rw [zsk_f (decide_eq_false q2)] at hA
      exact ih (m + 1) f H1 (zcf_fc hF g) (by omega) (by omega) (by omega) hA
theorem b85 {v m k : Int} (hMR : zMR) (hD : zDk H) : zclI w (d + 5) 85 [zR 32, zI v, zI m, zI k] H (zPC H (zAbef (H 40 4) v m k)) := by
  unfold zAbef
  by_cases hg : 0 ≤ v ∧ 1 ≤ m ∧ m ≤ 2000 ∧ 0 ≤ k
  · rw [if_pos hg]
    refine x85_0 ?_
    repeat' (first | omega | intro _ | with_reducible refine And.intro ?_ ?_)
    exact b85l hMR hD (by omega) (by omega) m.toNat 1 0 H zcf_rfl (by omega) (by omega) (by omega) rfl
  · have eA : (1, -1) = ((1 : Int), (-1 : Int)) := rfl
    rw [if_neg hg]
    refine x85_0 ?_
    repeat' (first | exact zPC_r zcf_rfl eA | omega | intro _ | with_reducible refine And.intro ?_ ?_)
theorem b204 {v m k : Int} (hD : zDk H) : zclI w (d + 5) 204 [zR 81, zI v, zI m, zI k] H (zPM H (zAbef (H 40 4) v m k)) := by
  unfold zAbef
  by_cases hg : 0 ≤ v ∧ 1 ≤ m ∧ m ≤ 2000 ∧ 0 ≤ k
  · rw [if_pos hg]
    obtain ⟨n, rfl⟩ : ∃ n : Nat, m = n := ⟨m.toNat, by omega⟩
    obtain ⟨H1, ⟨f, hT⟩, e⟩ := c205 (w := w) (H := zst H 0) (d := d) (M := n) (by omega)
    have el : zst H 0 82 9 = H 40 4 := (zst_at (by decide)).trans hD.2.1
    rw [el] at hT
    refine x204_0 ?_
    simp only [c176, c173, c201, c174_0, c174_1, c174_2, c174_3, c174_4, c174_5, zit0, z10a, z10b, Classical.not_not, not_true_eq_false, false_implies, true_implies, true_and, and_true]
    refine ⟨fun q => by omega, fun _ => ⟨fun q => by omega, fun _ => ⟨fun q => by omega, fun _ => ?_⟩⟩⟩
    rw [e, c206 (by omega) hT, Int.toNat_natCast]
    exact z206e (zmf_fs (zst_f zmf_rfl) f) (by rw [f 81 0 (by decide) (by decide) (by decide) (by decide)]; rfl)
  · have eA : (1, -1) = ((1 : Int), (-1 : Int)) := rfl
    rw [if_neg hg]
    refine x204_0 ?_
    simp only [c176, c173, c201, c174_0, c174_1, c174_2, c174_3, c174_4, c174_5, zit0, z10a, z10b, Classical.not_not, not_true_eq_false, false_implies, true_implies, true_and, and_true]
    repeat' (first | exact zPM_n zmf_rfl eA | omega | intro _ | with_reducible refine And.intro ?_ ?_)
-- touched
theorem b104l {H0 : zHt} {v b t : Int} {A : Int × Int} (hMR : zMR) (hD : zDk H0) (hb : b ≤ 2000) (ht : t = 0 ∨ t = 1) : ∀ (c m f r : Nat) (H : zHt), zcf H0 H → (m : Int) + c = b + 1 → 1 ≤ m → f + c ≤ 3000 → (t = 0 → zsk (zPsum (H0 40 4) v) zhit (zfin (-1)) (-1) c m f = A) → (t = 1 → if f = 0 then zsk (zPsum (H0 40 4) v) zhit (zfin 0) 0 c m 0 = A else A = (0, (r : Int))) → zgo w (d + 5) 104 39 [zR 32, zI v, zI b, zI t, zI f, zI r, zI m] [] H (zQI (zPC H0 A)) := by
  intro c
  induction c with
  | zero =>
    intro m f r H hF hm m1 hf h0 h1
    refine x104_39 ⟨fun _ => ⟨fun q => ⟨fun q2 => zPC_d hF ?_, fun q2 => zPC_r hF ?_⟩, fun q => zPC_d hF ?_⟩, fun q => by omega⟩
    · have := h1 (by omega); rw [if_neg (by omega)] at this; exact this
    · have := h1 (by omega); rw [if_pos (by omega)] at this; rw [← this]; rfl
    · rw [← h0 q]; rfl
  | succ c ih =>
    intro m f r H hF hm m1 hf h0 h1
    have el : H 40 4 = H0 40 4 := zcf_at hF rfl
    obtain ⟨H1, g, e⟩ := c52 (w := w) (d := d) (H := H) (n := m) hMR (by omega) (by omega) (by rw [el]; exact hD.1)
    refine x104_39 ⟨fun q => by omega, fun _ => ?_⟩
    rw [e, zi1 (by omega), zi1 (by omega), el]
    refine and_comm.mp ⟨fun q2 => ⟨fun q3 => ?_, fun q3 => ?_⟩, fun q2 => ?_⟩
    · refine ih (m + 1) (f + 1) r H1 (zcf_fc hF g) (by omega) (by omega) (by omega) (fun z => ?_) (fun z => ?_)
      · rw [← h0 z, zsk_t (decide_eq_true q2) (by omega)]
      · have := h1 z; rw [if_neg (by omega)] at this; rw [if_neg (by omega)]; exact this
    · refine ih (m + 1) (f + 1) m H1 (zcf_fc hF g) (by omega) (by omega) (by omega) (fun z => ?_) (fun z => ?_)
      · rw [← h0 z, zsk_t (decide_eq_true q2) (by omega)]
      · have := h1 z; rw [if_pos (by omega), zsk_h (P := zPsum (H0 40 4) v) (hit := zhit) (fin := zfin 0) (k := 0) (n := c) (m := m) (f := 0) (decide_eq_true q2) rfl] at this; rw [if_neg (by omega)]; exact this.symm
    · refine ih (m + 1) f r H1 (zcf_fc hF g) (by omega) (by omega) (by omega) (fun z => ?_) (fun z => ?_)
      · rw [← h0 z, zsk_f (decide_eq_false q2)]
      · have := h1 z
        by_cases y : f = 0
        · rw [if_pos y, zsk_f (decide_eq_false q2)] at this; rw [if_pos y]; exact this
        · rw [if_neg y] at this; rw [if_neg y]; exact this
theorem b104 {v m t : Int} (hMR : zMR) (hD : zDk H) : zclI w (d + 5) 104 [zR 32, zI v, zI m, zI t] H (zPC H (zAtou (H 40 4) v m t)) := by
  unfold zAtou
  by_cases hg : 0 ≤ v ∧ 1 ≤ m ∧ m ≤ 2000 ∧ 0 ≤ t ∧ t ≤ 1
  · rw [if_pos hg]
    refine x104_0 ?_
    simp only [c43, c44, c81, zit0, Classical.not_not]
    repeat' (first | omega | intro _ | with_reducible refine And.intro ?_ ?_)
    refine b104l hMR hD (by omega) (by omega) m.toNat 1 0 0 H zcf_rfl (by omega) (by omega) (by omega) (fun z => ?_) (fun z => ?_)
    · rw [if_pos z]
    · rw [if_pos rfl, if_neg (by omega)]
  · have eA : (1, -1) = ((1 : Int), (-1 : Int)) := rfl
    rw [if_neg hg]
    refine x104_0 ?_
    simp only [c43, c44, c81, zit0, Classical.not_not]
    repeat' (first | exact zPC_r zcf_rfl eA | omega | intro _ | with_reducible refine And.intro ?_ ?_)
theorem b207 {v m t : Int} (hD : zDk H) : zclI w (d + 5) 207 [zR 81, zI v, zI m, zI t] H (zPM H (zAtou (H 40 4) v m t)) := by
  unfold zAtou
  by_cases hg : 0 ≤ v ∧ 1 ≤ m ∧ m ≤ 2000 ∧ 0 ≤ t ∧ t ≤ 1
  · rw [if_pos hg]
    obtain ⟨n, rfl⟩ : ∃ n : Nat, m = n := ⟨m.toNat, by omega⟩
    obtain ⟨H1, ⟨f, hT⟩, e⟩ := c205 (w := w) (H := zst H 0) (d := d) (M := n) (by omega)
    have el : zst H 0 82 9 = H 40 4 := (zst_at (by decide)).trans hD.2.1
    rw [el] at hT
    have fin : zmf H H1 ∧ H1 81 0 = 0 := ⟨zmf_fs (zst_f zmf_rfl) f, by rw [f 81 0 (by decide) (by decide) (by decide) (by decide)]; rfl⟩
    refine x207_0 ?_
    simp only [c176, c173, c201, c174_0, c174_1, c174_2, c174_3, c174_4, c174_5, zit0, z10a, z10b, Classical.not_not, not_true_eq_false, false_implies, true_implies, true_and, and_true]
    repeat' (first | omega | intro _ | with_reducible refine And.intro ?_ ?_)
    refine x207_32 ?_
    simp only [c176, c173, c201, c174_0, c174_1, c174_2, c174_3, c174_4, c174_5, zit0, z10a, z10b, Classical.not_not, not_true_eq_false, false_implies, true_implies, true_and, and_true]
    rw [e, c206 (by omega) hT, c206 (by omega) hT, Int.toNat_natCast]
    refine ⟨fun q => ?_, fun q => ?_⟩
    · rw [if_neg q]
      exact z206e fin.1 fin.2
    · rw [if_pos q]
      exact z206e fin.1 fin.2
  · have eA : (1, -1) = ((1 : Int), (-1 : Int)) := rfl
    rw [if_neg hg]
    have L : zgo w (d + 5) 207 32 [zR 81, zI v, zI m, zI t, zJ] [zI 1, zR 81] H (zQI (zPM H (1, -1))) := by
      refine x207_32 ?_
      simp only [c176, c173, c201, c174_0, c174_1, c174_2, c174_3, c174_4, c174_5, zit0, z10a, z10b, Classical.not_not, not_true_eq_false, false_implies, true_implies, true_and, and_true]
      exact zPM_n zmf_rfl eA
    refine x207_0 ?_
    simp only [c176, c173, c201, c174_0, c174_1, c174_2, c174_3, c174_4, c174_5, zit0, z10a, z10b, Classical.not_not, not_true_eq_false, false_implies, true_implies, true_and, and_true]
    repeat' (first | exact L | omega | intro _ | with_reducible refine And.intro ?_ ?_)
-- record
theorem b90l {H0 : zHt} {b k : Int} {A : Int × Int} (hMR : zMR) (hb : b ≤ 2000) : ∀ (c m be f : Nat) (ba : Int) (H : zHt), zcf H0 H → (m : Int) + c = b + 1 → 1 ≤ m → f + c ≤ 3000 → zrec k c m ba be f = A → zgo w (d + 4) 90 34 [zR 32, zI b, zI k, zL ba, zJ, zI be, zI f, zI m, zJ, zJ] [] H (zQI (zPC H0 A)) := by
  intro c
  induction c with
  | zero =>
    intro m be f ba H hF hm m1 hf hA
    exact x90_34 ⟨fun _ => zPC_82 hF hA.symm, fun q => by omega⟩
  | succ c ih =>
    intro m be f ba H hF hm m1 hf hA
    obtain ⟨H1, g, e⟩ := c69 (w := w) (d := d) (H := H) (n := m) hMR (by omega) (by omega)
    unfold zrec at hA
    refine x90_34 ⟨fun q => by omega, fun _ => ?_⟩
    rw [e, zi1 (by omega), zi1 (by omega)]
    refine ⟨fun q2 => ⟨fun q3 => ?_, fun q3 => ?_⟩, fun q2 => ?_⟩
    · rw [if_pos q2, if_neg q3] at hA
      exact ih (m + 1) m (f + 1) _ H1 (zcf_fc hF g) (by omega) (by omega) (by omega) hA
    · rw [if_pos q2, if_pos q3] at hA
      exact zPC_d (zcf_fc hF g) hA.symm
    · rw [if_neg (by omega)] at hA
      exact ih (m + 1) be f _ H1 (zcf_fc hF g) (by omega) (by omega) (by omega) hA
theorem b90 {m k : Int} (hMR : zMR) : zclI w (d + 4) 90 [zR 32, zI m, zI k] H (zPC H (zArec m k)) := by
  unfold zArec
  by_cases hg : 1 ≤ m ∧ m ≤ 2000 ∧ -1 ≤ k
  · rw [if_pos hg]
    refine x90_0 ?_
    repeat' (first | omega | intro _ | with_reducible refine And.intro ?_ ?_)
    exact b90l hMR (by omega) m.toNat 1 1 0 0 H zcf_rfl (by omega) (by omega) (by omega) rfl
  · have eA : (1, -1) = ((1 : Int), (-1 : Int)) := rfl
    rw [if_neg hg]
    refine x90_0 ?_
    repeat' (first | exact zPC_r zcf_rfl eA | omega | intro _ | with_reducible refine And.intro ?_ ?_)
theorem b213l {H0 : zHt} {b k : Int} {A : Int × Int} (hb : b ≤ 2000) : ∀ (c m be f : Nat) (ba : Int) (H : zHt), zmf H0 H → H 81 0 = 0 → (m : Int) + c = b + 1 → 1 ≤ m → f + c ≤ 3000 → zrec k c m ba be f = A → zgo w (d + 4) 213 42 [zR 81, zI b, zI k, zL ba, zJ, zL be, zJ, zI f, zI m, zJ, zJ] [] H (zQI (zPM H0 A)) := by
  intro c
  induction c with
  | zero =>
    intro m be f ba H hF hs hm m1 hf hA
    refine x213_42 ⟨fun _ => ⟨fun q => zPM_r hF ?_, fun q => (zPM_0 hF hs ?_)⟩, fun q => by omega⟩
    · rw [← hA]; exact if_neg q
    · rw [← hA]; exact if_pos q
  | succ c ih =>
    intro m be f ba H hF hs hm m1 hf hA
    obtain ⟨H1, g, e⟩ := c182 (w := w) (d := d + 2) (H := H) (n := m) (by omega) (by omega)
    have hs1 : H1 81 0 = 0 := by rw [g.1 81 0 (by decide) (by decide) (by decide)]; exact hs
    unfold zrec at hA
    refine x213_42 ⟨fun q => by omega, fun _ => ?_⟩
    rw [e, zi1 (by omega), zi1 (by omega)]
    refine ⟨fun q2 => ⟨fun q3 => ?_, fun q3 => ?_⟩, fun q2 => ?_⟩
    · rw [if_pos q2, if_neg q3] at hA
      exact ih (m + 1) m (f + 1) _ H1 (zmf_fm hF g.1) hs1 (by omega) (by omega) (by omega) hA
    · rw [if_pos q2, if_pos q3] at hA
      exact zPM_0 (zmf_fm hF g.1) hs1 hA.symm
    · rw [if_neg (by omega)] at hA
      exact ih (m + 1) be f _ H1 (zmf_fm hF g.1) hs1 (by omega) (by omega) (by omega) hA
theorem b213 {m k : Int} : zclI w (d + 4) 213 [zR 81, zI m, zI k] H (zPM H (zArec m k)) := by
  unfold zArec
  by_cases hg : 1 ≤ m ∧ m ≤ 2000 ∧ -1 ≤ k
  · rw [if_pos hg]
    refine x213_0 ?_
    simp only [c176, c173, c201, c174_0, c174_1, c174_2, c174_3, c174_4, c174_5, zit0, z10a, z10b, Classical.not_not, not_true_eq_false, false_implies, true_implies, true_and, and_true]
    repeat' (first | omega | intro _ | with_reducible refine And.intro ?_ ?_)
    exact b213l (by omega) m.toNat 1 1 0 0 (zst H 0) (zst_f zmf_rfl) rfl (by omega) (by omega) (by omega) rfl
  · have eA : (1, -1) = ((1 : Int), (-1 : Int)) := rfl
    rw [if_neg hg]
    refine x213_0 ?_
    simp only [c176, c173, c201, c174_0, c174_1, c174_2, c174_3, c174_4, c174_5, zit0, z10a, z10b, Classical.not_not, not_true_eq_false, false_implies, true_implies, true_and, and_true]
    repeat' (first | exact zPM_n zmf_rfl eA | omega | intro _ | with_reducible refine And.intro ?_ ?_)
-- practical
theorem c92 {n : Nat} {l : List (Nat × Nat)} {K : Int → zHt → Prop} (hn : n ≤ 999999999) (hG : zGood n l) (hL : zLst H 36 3 37 38 l) : zclI w (d + 1) 92 [zR 36] H K = K (zpra l 1) H := by
  have h9 := zGood_nine hG (by omega)
  have L : ∀ (suf pre : List (Nat × Nat)) (s : Int) (K : Int → zHt → Prop), l = pre ++ suf → K (zpra suf s) H → zgo w (d + 1) 92 4 [zR 36, zL s, zJ, zI pre.length] [] H (zQI K) := by
    intro suf
    induction suf with
    | nil =>
      intro pre s K hl h
      have hc := hL.1
      rw [hl, List.append_nil] at hc
      exact x92_4 ⟨fun _ => h, fun q => by omega⟩
    | cons q suf ih =>
      intro pre s K hl h
      have hc := hL.1
      have hlen : l.length = pre.length + (suf.length + 1) := by rw [hl, List.length_append]; rfl
      have hb := zGood_bd hG (q := q) (by rw [hl]; simp)
      have hat := zLst_at (hl ▸ hL)
      unfold zpra at h
      refine x92_4 ⟨fun z => by omega, fun _ => ⟨by omega, ?_⟩⟩
      rw [hat.1]
      refine ⟨fun q1 => ?_, fun q1 => ?_⟩
      · rw [if_pos q1] at h
        rw [c59 hL (by rw [hl]; exact zget_at) h9 (by omega), show w32 ((pre.length : Int) + 1) = ((pre ++ [q]).length : Int) by rw [w32_id (by omega), List.length_append]; simp]
        exact ih (pre ++ [q]) _ K (by rw [hl, zapp_one]) h
      · rw [if_neg (by omega)] at h
        exact h
  exact zclI_eq fun K h => x92_0 (L l [] 1 K rfl h)
theorem zpra_01 : ∀ {l : List (Nat × Nat)} {s : Int}, zpra l s = 0 ∨ zpra l s = 1
  | [], _ => Or.inr rfl
  | q :: l, s => by
    unfold zpra
    split
    · exact zpra_01
    · exact Or.inl rfl
theorem b91 {v : Int} (hMR : zMR) : zclI w (d + 3) 91 [zR 32, zI v] H (zPC H (zApra v)) := by
  unfold zApra
  by_cases hg : 1 ≤ v ∧ v ≤ 999999999
  · rw [if_pos hg]
    obtain ⟨n, rfl⟩ : ∃ n : Nat, v = n := ⟨v.toNat, by omega⟩
    obtain ⟨H1, F, e⟩ := c45 (w := w) (H := H) (d := d) (n := n) hMR (by omega) (by omega)
    refine x91_0 ?_
    simp only [c43, c44, c81, zit0, Classical.not_not]
    refine ⟨fun _ => ?_, fun q => absurd hg q⟩
    rw [e, c92 (by omega) F.2.1 F.2.2, Int.toNat_natCast]
    rcases zpra_01 (l := zfac n) (s := 1) with z | z
    · rw [z]; exact ⟨fun _ => zPC_d (zcf_fc zcf_rfl F.1) rfl, fun q => absurd rfl q⟩
    · rw [z]; exact ⟨fun q => absurd q (by decide), fun _ => zPC_d (zcf_fc zcf_rfl F.1) rfl⟩
  · have eA : (1, -1) = ((1 : Int), (-1 : Int)) := rfl
    rw [if_neg hg]
    refine x91_0 ?_
    simp only [c43, c44, c81, zit0, Classical.not_not]
    repeat' (first | exact zPC_r zcf_rfl eA | omega | intro _ | with_reducible refine And.intro ?_ ?_)
theorem b214l {H0 : zHt} {A : Int × Int} {n : Nat} {l : List (Nat × Nat)} (hn : n ≤ 999999999) (hG : zGood n l) (hL : zLst H 81 8 85 86 l) (hF : zmf H0 H) (hs : H 81 0 = 0) : ∀ (suf pre : List (Nat × Nat)) (s : Int), l = pre ++ suf → A = (0, zpra suf s) → zgo w (d + 1) 214 31 [zR 81, zJ, zL s, zJ, zI pre.length] [] H (zQI (zPM H0 A)) := by
  have h9 := zGood_nine hG (by omega)
  intro suf
  induction suf with
  | nil =>
    intro pre s hl h
    have hc := hL.1
    rw [hl, List.append_nil] at hc
    exact x214_31 ⟨fun _ => (zPM_0 hF hs h), fun q => by omega⟩
  | cons q suf ih =>
    intro pre s hl h
    have hc := hL.1
    have hlen : l.length = pre.length + (suf.length + 1) := by rw [hl, List.length_append]; rfl
    have hb := zGood_bd hG (q := q) (by rw [hl]; simp)
    have hat := zLst_at (hl ▸ hL)
    unfold zpra at h
    refine x214_31 ⟨fun z => by omega, fun _ => ⟨by omega, ?_⟩⟩
    rw [hat.1, hat.2, c183 (by omega)]
    refine ⟨fun q1 => ?_, fun q1 => ?_⟩
    · rw [if_pos q1] at h
      rw [show w32 ((pre.length : Int) + 1) = ((pre ++ [q]).length : Int) by rw [w32_id (by omega), List.length_append]; simp]
      exact ih (pre ++ [q]) _ (by rw [hl, zapp_one]) h
    · rw [if_neg (by omega)] at h
      exact (zPM_0 hF hs h)
theorem b214 {v : Int} : zclI w (d + 3) 214 [zR 81, zI v] H (zPM H (zApra v)) := by
  unfold zApra
  by_cases hg : 1 ≤ v ∧ v ≤ 999999999
  · rw [if_pos hg]
    obtain ⟨n, rfl⟩ : ∃ n : Nat, v = n := ⟨v.toNat, by omega⟩
    obtain ⟨H1, F, e⟩ := c177 (w := w) (H := zst H 0) (d := d + 2) (n := n) (by omega) (by omega)
    refine x214_0 ?_
    simp only [c176, c173, c201, c174_0, c174_1, c174_2, c174_3, c174_4, c174_5, zit0, z10a, z10b, Classical.not_not, not_true_eq_false, false_implies, true_implies, true_and, and_true]
    refine ⟨fun q => absurd hg q, fun _ => ?_⟩
    rw [e, Int.toNat_natCast]
    exact b214l (by omega) F.2.1 F.2.2 (zmf_fm (zst_f zmf_rfl) F.1) (by rw [F.1 81 0 (by decide) (by decide) (by decide)]; rfl) (zfac n) [] 1 rfl rfl
  · have eA : (1, -1) = ((1 : Int), (-1 : Int)) := rfl
    rw [if_neg hg]
    refine x214_0 ?_
    simp only [c176, c173, c201, c174_0, c174_1, c174_2, c174_3, c174_4, c174_5, zit0, z10a, z10b, Classical.not_not, not_true_eq_false, false_implies, true_implies, true_and, and_true]
    repeat' (first | exact zPM_n zmf_rfl eA | omega | intro _ | with_reducible refine And.intro ?_ ?_)
end Z42
theorem l767 {w : zWt} (hw : w.1 ≤ 3072) (hMR : zMR) : zLaw w (zKept zAllR) 767 := fun H i hi hR K nx => x0_767 (d := 1999) (by
  refine ⟨zidx hw hi (by decide) (by decide), zidx hw hi (by decide) (by decide), zidx hw hi (by decide) (by decide), ?_⟩
  have r1 : r32 (zH0 w.2 0 (w32 ((i : Int) + 1))) := zv_r
  generalize zH0 w.2 0 (w32 ((i : Int) + 1)) = v1 at r1 ⊢
  have r2 : r32 (zH0 w.2 0 (w32 ((i : Int) + 2))) := zv_r
  generalize zH0 w.2 0 (w32 ((i : Int) + 2)) = v2 at r2 ⊢
  have r3 : r32 (zH0 w.2 0 (w32 ((i : Int) + 3))) := zv_r
  generalize zH0 w.2 0 (w32 ((i : Int) + 3)) = v3 at r3 ⊢
  exact zcaseI (A := fun H => zAbef (H 40 4) v1 v2 v3) (fun H H1 h => by simp only [h 40 4 rfl, h 40 1 rfl, h 40 2 rfl, h 40 3 rfl]) hR (fun hD hW => b85 (d := 1994) hMR hD) (fun H1 hD => b204 (d := 1994) hD) (fun x y H' hk e => nx H' hk))
theorem l1124 {w : zWt} (hw : w.1 ≤ 3072) (hMR : zMR) : zLaw w (zKept zAllR) 1124 := fun H i hi hR K nx => x0_1124 (d := 1999) (by
  refine ⟨zidx hw hi (by decide) (by decide), zidx hw hi (by decide) (by decide), zidx hw hi (by decide) (by decide), ?_⟩
  have r1 : r32 (zH0 w.2 0 (w32 ((i : Int) + 1))) := zv_r
  generalize zH0 w.2 0 (w32 ((i : Int) + 1)) = v1 at r1 ⊢
  have r2 : r32 (zH0 w.2 0 (w32 ((i : Int) + 2))) := zv_r
  generalize zH0 w.2 0 (w32 ((i : Int) + 2)) = v2 at r2 ⊢
  have r3 : r32 (zH0 w.2 0 (w32 ((i : Int) + 3))) := zv_r
  generalize zH0 w.2 0 (w32 ((i : Int) + 3)) = v3 at r3 ⊢
  exact zcaseI (A := fun H => zAtou (H 40 4) v1 v2 v3) (fun H H1 h => by simp only [h 40 4 rfl, h 40 1 rfl, h 40 2 rfl, h 40 3 rfl]) hR (fun hD hW => b104 (d := 1994) hMR hD) (fun H1 hD => b207 (d := 1994) hD) (fun x y H' hk e => nx H' hk))
theorem l843 {w : zWt} (hw : w.1 ≤ 3072) (hMR : zMR) : zLaw w (zKept zAllR) 843 := fun H i hi hR K nx => x0_843 (d := 1999) (by
  refine ⟨zidx hw hi (by decide) (by decide), zidx hw hi (by decide) (by decide), ?_⟩
  have r1 : r32 (zH0 w.2 0 (w32 ((i : Int) + 1))) := zv_r
  generalize zH0 w.2 0 (w32 ((i : Int) + 1)) = v1 at r1 ⊢
  have r2 : r32 (zH0 w.2 0 (w32 ((i : Int) + 2))) := zv_r
  generalize zH0 w.2 0 (w32 ((i : Int) + 2)) = v2 at r2 ⊢
  exact zcaseI (A := fun H => zArec v1 v2) (fun H H1 h => by simp only [h 40 4 rfl, h 40 1 rfl, h 40 2 rfl, h 40 3 rfl]) hR (fun hD hW => b90 (d := 1995) hMR) (fun H1 hD => b213 (d := 1995)) (fun x y H' hk e => nx H' hk))
theorem l876 {w : zWt} (hw : w.1 ≤ 3072) (hMR : zMR) : zLaw w (zKept zAllR) 876 := fun H i hi hR K nx => x0_876 (d := 1999) (by
  refine ⟨zidx hw hi (by decide) (by decide), ?_⟩
  have r1 : r32 (zH0 w.2 0 (w32 ((i : Int) + 1))) := zv_r
  generalize zH0 w.2 0 (w32 ((i : Int) + 1)) = v1 at r1 ⊢
  exact zcaseI (A := fun H => zApra v1) (fun H H1 h => by simp only [h 40 4 rfl, h 40 1 rfl, h 40 2 rfl, h 40 3 rfl]) hR (fun hD hW => b91 (d := 1996) hMR) (fun H1 hD => b214 (d := 1996)) (fun x y H' hk e => nx H' hk))
