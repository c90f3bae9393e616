/-! sums of divisors: what both count, and the model's -/
def zpw (p : Int) : Nat → Int
  | 0 => 1
  | e + 1 => w64 (zpw p e * p)
def zofp (p : Int) : Nat → Int
  | 0 => 1
  | e + 1 => w64 (w64 (zofp p e * p) + 1)
def zall (l : List (Nat × Nat)) : Int := l.foldl (fun s q => w64 (s * zofp q.1 q.2)) 1
def zcnt (l : List (Nat × Nat)) : Int := l.foldl (fun s q => w32 (s * w32 ((q.2 : Int) + 1))) 1
def zsst (law : Int) (s : Int × Int) (q : Nat × Nat) : Int × Int := (w64 (s.1 * w64 (1 + (if law = 1 then zpw q.1 q.2 else (q.1 : Int)))), if s.2 = 0 then 0 else if (q.2 : Int) = 1 then 1 else 0)
def zsre (law n : Int) (s : Int × Int) : Int := if law = 1 then w64 (s.1 - n) else if s.2 = 0 then s.1 else w64 (s.1 - n)
/-- the sum of a number by a law -/
noncomputable def zsum (law : Int) (n : Nat) : Int := if n = 1 then 0 else if law = 0 then w64 (zall (zfac n) - n) else if law = 2 then w64 (w64 (zall (zfac n) - n) - 1) else zsre law n ((zfac n).foldl (zsst law) (1, 1))
theorem zprod_mem : ∀ {l : List (Nat × Nat)} {q : Nat × Nat}, (∀ q ∈ l, zprime q.1 ∧ 1 ≤ q.2) → q ∈ l → q.1 ^ q.2 ≤ zprod l
  | r :: l, q, h, hq => by
    have hr := h r List.mem_cons_self
    have ht : ∀ q ∈ l, zprime q.1 ∧ 1 ≤ q.2 := fun q hq => h q (List.mem_cons_of_mem _ hq)
    show q.1 ^ q.2 ≤ r.1 ^ r.2 * zprod l
    rcases List.mem_cons.mp hq with z | z
    · subst z; exact Nat.le_mul_of_pos_right _ (zprod_pos ht)
    · exact Nat.le_trans (zprod_mem ht z) (Nat.le_mul_of_pos_left _ (Nat.pow_pos (by have := hr.1.1; omega)))
theorem zGood_bd {n : Nat} {l : List (Nat × Nat)} {q : Nat × Nat} (h : zGood n l) (hq : q ∈ l) : 2 ≤ q.1 ∧ 1 ≤ q.2 ∧ q.1 ≤ n ∧ q.2 ≤ n := by
  obtain ⟨hp, he⟩ := h.2.1 q hq
  have h1 := zprod_mem h.2.1 hq
  rw [h.2.2] at h1
  have h2 := zlt_pow (e := q.2) hp.1
  have h3 : q.1 ≤ q.1 ^ q.2 := by
    obtain ⟨k, hk⟩ : ∃ k, q.2 = k + 1 := ⟨q.2 - 1, by omega⟩
    rw [hk, Nat.pow_succ]
    exact Nat.le_mul_of_pos_left _ (Nat.pow_pos (by have := hp.1; omega))
  exact ⟨hp.1, he, by omega, by omega⟩
section M25
variable {w : zWt} {d : Nat} {H : zHt}
theorem c183 {p : Int} {e : Nat} {K : Int → zHt → Prop} (he : e ≤ 2000000000) : zclL w d 183 [zI p, zI e] H K = K (zofp p e) H := by
  have L : ∀ (k i : Nat) (K : Int → zHt → Prop), i + k = e → K (zofp p e) H → zgo w d 183 5 [zI p, zI e, zL (zofp p i), zJ, zI i] [] H (zQL K) := by
    intro k
    induction k with
    | zero =>
      intro i K hi h
      have : i = e := by omega
      subst this
      exact x183_5 ⟨fun _ => h, fun q => by omega⟩
    | succ k ih =>
      intro i K hi h
      refine x183_5 ⟨fun q => by omega, fun _ => ?_⟩
      rw [show w32 ((i : Int) + 1) = ((i + 1 : Nat) : Int) from w32_id (by omega)]
      exact ih (i + 1) K (by omega) h
  exact zclL_eq fun K h => x183_0 (L e 0 K (by omega) h)
theorem c184w {p : Int} {e : Nat} {K : Int → zHt → Prop} (he : e ≤ 2000000000) : zclL w d 184 [zI p, zI e] H K = K (zpw p e) H := by
  have L : ∀ (k i : Nat) (K : Int → zHt → Prop), i + k = e → K (zpw p e) H → zgo w d 184 5 [zI p, zI e, zL (zpw p i), zJ, zI i] [] H (zQL K) := by
    intro k
    induction k with
    | zero =>
      intro i K hi h
      have : i = e := by omega
      subst this
      exact x184_5 ⟨fun _ => h, fun q => by omega⟩
    | succ k ih =>
      intro i K hi h
      refine x184_5 ⟨fun q => by omega, fun _ => ?_⟩
      rw [show w32 ((i : Int) + 1) = ((i + 1 : Nat) : Int) from w32_id (by omega)]
      exact ih (i + 1) K (by omega) h
  exact zclL_eq fun K h => x184_0 (L e 0 K (by omega) h)
theorem c55w {p : Int} {e : Nat} {K : Int → zHt → Prop} (he : e ≤ 2000000000) : zclL w d 55 [zI p, zI e] H K = K (zpw p e) H := by
  have L : ∀ (k i : Nat) (K : Int → zHt → Prop), i + k = e → K (zpw p e) H → zgo w d 55 5 [zI p, zI e, zL (zpw p i), zJ, zI i] [] H (zQL K) := by
    intro k
    induction k with
    | zero =>
      intro i K hi h
      have : i = e := by omega
      subst this
      exact x55_5 ⟨fun _ => h, fun q => by omega⟩
    | succ k ih =>
      intro i K hi h
      refine x55_5 ⟨fun q => by omega, fun _ => ?_⟩
      rw [show w32 ((i : Int) + 1) = ((i + 1 : Nat) : Int) from w32_id (by omega)]
      exact ih (i + 1) K (by omega) h
  exact zclL_eq fun K h => x55_0 (L e 0 K (by omega) h)
theorem zLst_at {H : zHt} {c k A B : Int} {pre suf : List (Nat × Nat)} {q : Nat × Nat} (h : zLst H c k A B (pre ++ q :: suf)) : H A pre.length = q.1 ∧ H B pre.length = q.2 := h.2 pre.length q (by rw [List.getElem?_append_right (Nat.le_refl _), Nat.sub_self]; rfl)
theorem zapp_one {α : Type} (pre suf : List α) (q : α) : pre ++ q :: suf = (pre ++ [q]) ++ suf := by simp
theorem c182l {n : Nat} {l : List (Nat × Nat)} (hn : n ≤ 999999999) (hG : zGood n l) (hL : zLst H 81 8 85 86 l) : ∀ (suf pre : List (Nat × Nat)) (s : Int) (K : Int → zHt → Prop), l = pre ++ suf → K (suf.foldl (fun s q => w64 (s * zofp q.1 q.2)) s) H → zgo w (d + 1) 182 10 [zR 81, zJ, zL s, zJ, zI pre.length] [] H (zQL K) := by
  intro suf
  have h9 := zGood_nine hG (by omega)
  induction suf with
  | nil =>
    intro pre s K hl h
    have hc := hL.1
    rw [hl, List.append_nil] at hc
    exact x182_10 ⟨fun _ => h, fun q => by omega⟩
  | cons q suf ih =>
    intro pre s K hl h
    have hc := hL.1
    have hlen : l.length = pre.length + (suf.length + 1) := by rw [hl, List.length_append]; rfl
    have hq := zLst_at (hl ▸ hL)
    have hb := zGood_bd hG (q := q) (by rw [hl]; simp)
    refine x182_10 ⟨fun z => by omega, fun _ => ⟨by omega, ?_⟩⟩
    rw [hq.1, hq.2, c183 (by omega), show w32 ((pre.length : Int) + 1) = ((pre ++ [q]).length : Int) by rw [w32_id (by omega), List.length_append]; simp]
    exact ih (pre ++ [q]) _ K (by rw [hl, zapp_one]) h
theorem c182 {n : Nat} (h1 : 1 ≤ n) (hn : n ≤ 999999999) : ∃ H', zFM H n H' ∧ ∀ K : Int → zHt → Prop, zclL w (d + 1) 182 [zR 81, zI n] H K = K (zall (zfac n)) H' := by
  obtain ⟨H', hF, e⟩ := c177 (w := w) (H := H) (d := d) h1 hn
  refine ⟨H', hF, fun K => zclL_eq fun K h => x182_0 ?_⟩
  rw [e]
  exact c182l hn hF.2.1 hF.2.2 (zfac n) [] 1 K rfl h
theorem c193l {n : Nat} {l : List (Nat × Nat)} (hn : n ≤ 999999999) (hG : zGood n l) (hL : zLst H 81 8 85 86 l) : ∀ (suf pre : List (Nat × Nat)) (s : Int) (K : Int → zHt → Prop), l = pre ++ suf → K (suf.foldl (fun s q => w32 (s * w32 ((q.2 : Int) + 1))) s) H → zgo w (d + 1) 193 9 [zR 81, zJ, zI s, zI pre.length] [] H (zQI K) := by
  intro suf
  have h9 := zGood_nine hG (by omega)
  induction suf with
  | nil =>
    intro pre s K hl h
    have hc := hL.1
    rw [hl, List.append_nil] at hc
    exact x193_9 ⟨fun _ => h, fun q => by omega⟩
  | cons q suf ih =>
    intro pre s K hl h
    have hc := hL.1
    have hlen : l.length = pre.length + (suf.length + 1) := by rw [hl, List.length_append]; rfl
    have hq := zLst_at (hl ▸ hL)
    refine x193_9 ⟨fun z => by omega, fun _ => ⟨by omega, ?_⟩⟩
    rw [hq.2, show w32 ((pre.length : Int) + 1) = ((pre ++ [q]).length : Int) by rw [w32_id (by omega), List.length_append]; simp]
    exact ih (pre ++ [q]) _ K (by rw [hl, zapp_one]) h
theorem c193 {n : Nat} (h1 : 1 ≤ n) (hn : n ≤ 999999999) : ∃ H', zFM H n H' ∧ ∀ K : Int → zHt → Prop, zclI w (d + 1) 193 [zR 81, zI n] H K = K (zcnt (zfac n)) H' := by
  obtain ⟨H', hF, e⟩ := c177 (w := w) (H := H) (d := d) h1 hn
  refine ⟨H', hF, fun K => zclI_eq fun K h => x193_0 ?_⟩
  rw [e]
  exact c193l hn hF.2.1 hF.2.2 (zfac n) [] 1 K rfl h
theorem c181l {n : Nat} {law : Int} {l : List (Nat × Nat)} (hn : n ≤ 999999999) (hG : zGood n l) (hL : zLst H 81 8 85 86 l) : ∀ (suf pre : List (Nat × Nat)) (s b : Int) (K : Int → zHt → Prop), l = pre ++ suf → K (zsre law n (suf.foldl (zsst law) (s, b))) H → zgo w (d + 1) 181 46 [zR 81, zI n, zI law, zJ, zJ, zL s, zJ, zI b, zI pre.length] [] H (zQL K) := by
  intro suf
  have h9 := zGood_nine hG (by omega)
  induction suf with
  | nil =>
    intro pre s b K hl h
    have hc := hL.1
    rw [hl, List.append_nil] at hc
    refine x181_46 ⟨fun _ => ⟨fun q => ?_, fun q => ⟨fun q2 => ?_, fun q2 => ?_⟩⟩, fun q => by omega⟩
    · simpa [zsre, q] using h
    · simpa [zsre, q, q2] using h
    · simpa [zsre, q, q2] using h
  | cons q suf ih =>
    intro pre s b K hl h
    have hc := hL.1
    have hlen : l.length = pre.length + (suf.length + 1) := by rw [hl, List.length_append]; rfl
    have hq := zLst_at (hl ▸ hL)
    have hb := zGood_bd hG (q := q) (by rw [hl]; simp)
    have hp : w32 ((pre.length : Int) + 1) = ((pre ++ [q]).length : Int) := by rw [w32_id (by omega), List.length_append]; simp
    have nx : ∀ (s' b' : Int), zsst law (s, b) q = (s', b') → zgo w (d + 1) 181 46 [zR 81, zI n, zI law, zJ, zJ, zL s', zJ, zI b', zI ((pre ++ [q]).length : Int)] [] H (zQL K) := fun s' b' e => by
      refine ih (pre ++ [q]) s' b' K (by rw [hl, zapp_one]) ?_
      rw [← e]; exact h
    refine x181_46 ⟨fun z => by omega, fun _ => ⟨fun q1 => ⟨by omega, fun q2 => ?_, fun q2 => ⟨fun q3 => ?_, fun q3 => ?_⟩⟩, fun q1 => ⟨by omega, ?_⟩⟩⟩
    · rw [hq.1, hp]; exact nx _ _ (by simp [zsst, q1, q2])
    · rw [hq.2] at q3
      rw [hq.1, hp]; exact nx _ _ (by simp [zsst, q1, q2]; omega)
    · rw [hq.2] at q3
      rw [hq.1, hp]; exact nx _ _ (by simp [zsst, q1, q2]; omega)
    · rw [hq.1, hq.2, c184w (by omega)]
      refine ⟨fun q2 => ?_, fun q2 => ⟨fun q3 => ?_, fun q3 => ?_⟩⟩
      · rw [hp]; exact nx _ _ (by simp [zsst, q1, q2])
      · rw [hq.2] at q3
        rw [hp]; exact nx _ _ (by simp [zsst, q1, q2]; omega)
      · rw [hq.2] at q3
        rw [hp]; exact nx _ _ (by simp [zsst, q1, q2]; omega)
/-- what a run of the model's factors may leave behind: nothing for 1 -/
theorem c181 {n : Nat} {law : Int} (h1 : 1 ≤ n) (hn : n ≤ 999999999) : ∃ H', zfm H H' ∧ ∀ K : Int → zHt → Prop, zclL w (d + 2) 181 [zR 81, zI n, zI law] H K = K (zsum law n) H' := by
  by_cases hn1 : n = 1
  · refine ⟨H, fun _ _ _ _ _ => rfl, fun K => zclL_eq fun K h => x181_0 ⟨fun q => by omega, fun _ => ?_⟩⟩
    simpa [zsum, hn1] using h
  · obtain ⟨H', hF, e⟩ := c182 (w := w) (H := H) (d := d) h1 hn
    refine ⟨H', hF.1, fun K => zclL_eq fun K h => x181_0 ⟨fun _ => ?_, fun q => by omega⟩⟩
    rw [e]
    unfold zsum at h
    rw [if_neg hn1] at h
    refine ⟨fun q => ⟨fun z => absurd q z, fun _ => by rwa [if_pos q] at h⟩, fun q => ?_⟩
    rw [if_neg q] at h
    refine ⟨fun q2 => ?_, fun q2 => ⟨fun _ => by rwa [if_pos q2] at h, fun z => absurd z q⟩⟩
    rw [if_neg q2] at h
    exact c181l hn hF.2.1 hF.2.2 (zfac n) [] 1 1 K rfl h
theorem c180 {n : Nat} (h1 : 1 ≤ n) (hn : n ≤ 999999999) : ∃ H', zfm H H' ∧ ∀ K : Int → zHt → Prop, zclL w (d + 3) 180 [zR 81, zI n] H K = K (zsum (H 82 9) n) H' := by
  obtain ⟨H', hF, e⟩ := c181 (w := w) (H := H) (d := d) (law := H 82 9) h1 hn
  exact ⟨H', hF, fun K => zclL_eq fun K h => x180_0 (by rw [e]; exact h)⟩
noncomputable def zkind2 (law : Int) (n : Nat) : Int := if zsum law n < n then 0 else if zsum law n = n then 1 else 2
theorem c186 {n : Nat} {law : Int} (h1 : 1 ≤ n) (hn : n ≤ 999999999) : ∃ H', zfm H H' ∧ ∀ K : Int → zHt → Prop, zclI w (d + 3) 186 [zR 81, zI n, zI law] H K = K (zkind2 law n) H' := by
  obtain ⟨H', hF, e⟩ := c181 (w := w) (H := H) (d := d) (law := law) h1 hn
  refine ⟨H', hF, fun K => zclI_eq fun K h => x186_0 ?_⟩
  rw [e]
  unfold zkind2 at h
  exact ⟨fun q => ⟨fun q2 => by rwa [if_neg (by omega), if_neg q2] at h, fun q2 => by rwa [if_neg (by omega), if_pos q2] at h⟩, fun q => by rwa [if_pos q] at h⟩
def zispl (l : List (Nat × Nat)) : Int := if l.length = 1 ∧ (l.getD 0 (0, 0)).2 = 1 then 1 else 0
noncomputable def zisp (n : Nat) : Int := if 2 ≤ n then zispl (zfac n) else 0
theorem c220 {n : Nat} (hn : n ≤ 999999999) : ∃ H', zfm H H' ∧ ∀ K : Int → zHt → Prop, zclI w (d + 1) 220 [zR 81, zI n] H K = K (zisp n) H' := by
  by_cases h2 : 2 ≤ n
  · obtain ⟨H', hF, e⟩ := c177 (w := w) (H := H) (d := d) (show 1 ≤ n by omega) hn
    refine ⟨H', hF.1, fun K => zclI_eq fun K h => x220_0 ⟨fun _ => ?_, fun q => by omega⟩⟩
    rw [e]
    have hL := hF.2.2
    unfold zisp at h
    rw [if_pos h2] at h
    rcases hfa : zfac n with _ | ⟨⟨p, e⟩, _ | ⟨r, t⟩⟩
    · rw [hfa] at hL
      have := hL.1
      simp at this
      rw [hfa] at h
      refine ⟨fun _ => by simpa [zispl] using h, fun q => by omega⟩
    · rw [hfa] at hL h
      have a1 := hL.1
      have a2 := (hL.2 0 (p, e) rfl).2
      simp at a1 a2
      refine ⟨fun q => absurd a1 q, fun _ => ⟨fun q => ?_, fun q => ?_⟩⟩
      · have : e ≠ 1 := fun z => q (by rw [a2, z]; rfl)
        simpa [zispl, this] using h
      · have : e = 1 := by omega
        subst this
        simpa [zispl] using h
    · rw [hfa] at hL h
      have := hL.1
      simp at this
      refine ⟨fun _ => by simpa [zispl] using h, fun q => by omega⟩
  · refine ⟨H, fun _ _ _ _ _ => rfl, fun K => zclI_eq fun K h => x220_0 ⟨fun q => by omega, fun _ => ?_⟩⟩
    unfold zisp at h
    rwa [if_neg h2] at h
end M25
