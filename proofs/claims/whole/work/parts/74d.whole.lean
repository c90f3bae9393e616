/-! the case whole: both -/
def zf52 (H H' : zHt) : Prop := ∀ a j : Int, a ≠ 52 → H' a j = H a j
theorem zf52_up {H0 H : zHt} {i x : Int} (h : zf52 H0 H) : zf52 H0 (zup H 52 i x) := fun a j q => by rw [zq_ne (fun z => q z.1)]; exact h a j q
theorem zcf_52 {H0 H H1 : zHt} (h : zcf H0 H) (f : zf52 H H1) : zcf H0 H1 := zcf_tr h ⟨zRk_of (fun a j q => f a j (fun z => by subst z; cases q)), f 81 0 (by decide)⟩
/-- the words from m on tell g, those ahead f -/
def zBi (H : zHt) (m : Nat) (f g : Nat → Bool) : Prop := ∀ k : Nat, k < 47 → ∀ i : Nat, i < 64 → zbt (H 52 k) i = if m ≤ k then g (64 * k + i) else f (64 * k + i)
def zBs (H : zHt) (f : Nat → Bool) : Prop := ∀ k : Nat, k < 47 → ∀ i : Nat, i < 64 → zbt (H 52 k) i = f (64 * k + i)
theorem zBi_up {H : zHt} {m : Nat} {f g : Nat → Bool} {v : Int} (h : zBi H (m + 1) f g) (hv : ∀ i : Nat, i < 64 → zbt v i = g (64 * m + i)) : zBi (zup H 52 (m : Int) v) m f g := fun k hk i hi => by
  by_cases z : k = m
  · subst z
    rw [zq_eq, hv i hi, if_pos (Nat.le_refl _)]
  · rw [zq_ne (by omega), h k hk i hi]
    by_cases y : m ≤ k
    · rw [if_pos y, if_pos (by omega)]
    · rw [if_neg y, if_neg (by omega)]
theorem zstp_b {f : Nat → Bool} {q r c i : Nat} {A M : Bool} (hA : A = f (64 * (q + c) + i)) (hM : M = (decide (64 * q + r ≤ 64 * (q + c) + i) && f (64 * (q + c) + i - (64 * q + r)))) : (A || M) = zstp (64 * q + r) f (64 * (q + c) + i) := by
  rw [hA, hM]; rfl
section Z74d
variable {w : zWt} {d : Nat} {H : zHt}
theorem c75l {H0 : zHt} {f : Nat → Bool} {q r : Nat} (hq : q < 47) (hr : r < 64) (hf0 : zBs H0 f) : ∀ (c : Nat) (H : zHt), q + c ≤ 47 → zf52 H0 H → zBi H (q + c) f (zstp (64 * q + r) f) → zgo w d 75 19 [zR 32, zJ, zI (q : Int), zI (r : Int), zI (((q + c : Nat) : Int) - 1), zJ, zJ] [] H (zQV fun H' => zf52 H0 H' ∧ zBs H' (zstp (64 * q + r) f)) := by
  intro c
  induction c with
  | zero =>
    intro H hc hf hB
    refine x75_19 ⟨fun _ => ⟨hf, fun k hk i hi => ?_⟩, fun q2 => by omega⟩
    rw [hB k hk i hi]
    by_cases z : q + 0 ≤ k
    · rw [if_pos z]
    · rw [if_neg z]
      unfold zstp
      rw [decide_eq_false (show ¬ 64 * q + r ≤ 64 * k + i by omega)]
      simp
  | succ c ih =>
    intro H hc hf hB
    have e0 : ((q + (c + 1) : Nat) : Int) - 1 = ((q + c : Nat) : Int) := by omega
    rw [e0]
    have e1 : w32 (((q + c : Nat) : Int) - (q : Int)) = (c : Int) := by rw [w32_id (by omega)]; omega
    have e2 : w32 (((q + c : Nat) : Int) + -1) = ((q + c : Nat) : Int) - 1 := by rw [w32_id (by omega)]; omega
    have old : ∀ k : Nat, k ≤ q + c → ∀ i : Nat, i < 64 → zbt (H 52 k) i = f (64 * k + i) := fun k hk i hi => by
      rw [hB k (by omega) i hi, if_neg (by omega)]
    have hl := old (q + c) (Nat.le_refl _)
    have hs := old c (by omega)
    have eI : ((q + c : Nat) : Int) = (q : Int) + (c : Int) := by omega
    refine x75_19 ⟨fun q2 => by omega, fun _ => ?_⟩
    rw [e1, e2]
    refine ⟨by omega, fun q3 => ⟨by omega, ?_⟩, fun q3 => ⟨fun q4 => ⟨by omega, ?_⟩, fun q4 => ?_⟩⟩
    · have : r = 0 := by omega
      subst this
      refine ih _ (by omega) (zf52_up hf) (zBi_up hB (fun i hi => ?_))
      rw [zbt_or]
      refine zstp_b (hl i hi) ?_
      rw [zbt_shl hr hi, hs (i - 0) (by omega), decide_eq_true (Nat.zero_le i), decide_eq_true (show 64 * q + 0 ≤ 64 * (q + c) + i by omega)]
      congr 2; omega
    · have : c = 0 := by omega
      subst this
      refine ih _ (by omega) (zf52_up hf) (zBi_up hB (fun i hi => ?_))
      rw [zbt_or]
      refine zstp_b (hl i hi) ?_
      rw [zbt_shl hr hi]
      by_cases z : r ≤ i
      · rw [hs (i - r) (by omega), decide_eq_true z, decide_eq_true (show 64 * q + r ≤ 64 * (q + 0) + i by omega)]
        congr 2; omega
      · rw [decide_eq_false z, decide_eq_false (show ¬ 64 * q + r ≤ 64 * (q + 0) + i by omega)]
        rfl
    · have e3 : w32 ((c : Int) - 1) = ((c - 1 : Nat) : Int) := by rw [w32_id (by omega)]; omega
      have e4 : w32 (64 - (r : Int)) = ((64 - r : Nat) : Int) := by rw [w32_id (by omega)]; omega
      rw [e3, e4]
      refine ⟨by omega, by omega, fun v hv => ?_⟩
      subst hv
      have hp := old (c - 1) (by omega)
      refine ih _ (by omega) (zf52_up hf) (zBi_up hB (fun i hi => ?_))
      rw [zbt_or]
      refine zstp_b (hl i hi) ?_
      rw [zbt_or, zbt_shl hr hi, zbt_ushr (by omega), decide_eq_true (show 64 * q + r ≤ 64 * (q + c) + i by omega)]
      by_cases z : r ≤ i
      · rw [decide_eq_true z, hs (i - r) (by omega), zbt_big (show 64 ≤ 64 - r + i by omega), Bool.or_false]
        congr 2; omega
      · rw [decide_eq_false z, hp (64 - r + i) (by omega), Bool.false_and, Bool.false_or, Bool.true_and]
        congr 1; omega
theorem c75 {f : Nat → Bool} {k : Nat} (hk : k ≤ 3000) (hf : zBs H f) : ∃ H', (zf52 H H' ∧ zBs H' (zstp k f)) ∧ ∀ K : zHt → Prop, zclV w d 75 [zR 32, zI k] H K = K H' := by
  refine zclV_ex (x75_0 ?_)
  rw [show Int.tdiv (k : Int) 64 = ((k / 64 : Nat) : Int) from rfl, show Int.tmod (k : Int) 64 = ((k % 64 : Nat) : Int) from rfl, w32_id (by omega), show w32 (47 - 1) = ((k / 64 + (47 - k / 64) : Nat) : Int) - 1 by rw [w32_id (by omega)]; omega]
  have e : k = 64 * (k / 64) + k % 64 := by omega
  have := c75l (w := w) (d := d) (H0 := H) (f := f) (q := k / 64) (r := k % 64) (by omega) (by omega) hf (47 - k / 64) H (by omega) (fun _ _ _ => rfl) (fun k2 hk2 i hi => by rw [hf k2 hk2 i hi, if_neg (by omega)])
  rw [← e] at this
  exact this
/-- the words at the beginning -/
theorem c74a {H0 : zHt} {n : Nat} {Q : zV → zHt → Prop} {K : Int → zHt → Prop} (hQ : Q = zQI K) : ∀ (c k : Nat) (H : zHt), k + c = 47 → zf52 H0 H → (∀ j : Nat, j < k → H 52 j = if j = 0 then 1 else 0) → (∀ H', zf52 H0 H' → zBs H' (zrch []) → zgo w (d + 1) 74 34 [zR 32, zI n, zI 1] [] H' Q) → zgo w (d + 1) 74 2 [zR 32, zI n, zI (k : Int)] [] H Q := by
  subst hQ
  intro c
  induction c with
  | zero =>
    intro k H hk hf hB hK
    refine x74_2 ⟨fun _ => hK H hf (fun j hj i hi => ?_), fun q => by omega⟩
    rw [hB j (by omega)]
    show _ = decide (64 * j + i = 0)
    by_cases z : j = 0
    · subst z
      rw [if_pos rfl, zbt_1]
      congr 1
      exact propext ⟨fun q => by omega, fun q => by omega⟩
    · rw [if_neg z, zbt_0, decide_eq_false (by omega)]
  | succ c ih =>
    intro k H hk hf hB hK
    refine x74_2 ⟨fun q => by omega, fun _ => ?_⟩
    rw [zi1 (by omega)]
    refine ⟨fun q => ⟨by omega, ?_⟩, fun q => ⟨by omega, ?_⟩⟩
    · refine ih (k + 1) _ (by omega) (zf52_up hf) (fun j hj => ?_) hK
      by_cases z : j = k
      · subst z; rw [zq_eq, if_neg (by omega)]
      · rw [zq_ne (by omega)]; exact hB j (by omega)
    · refine ih (k + 1) _ (by omega) (zf52_up hf) (fun j hj => ?_) hK
      by_cases z : j = k
      · subst z; rw [zq_eq, if_pos (by omega)]
      · rw [zq_ne (by omega)]; exact hB j (by omega)
theorem c74b {H0 : zHt} {n : Nat} (h1 : 1 ≤ n) (hn : n ≤ 3000) : ∀ (c k : Nat) (H : zHt), k + c = n / 2 → zf52 H0 H → zBs H (zrch (zdlo n k)) → zgo w (d + 1) 74 34 [zR 32, zI n, zI ((k + 1 : Nat) : Int)] [] H (zQI fun x H' => zf52 H0 H' ∧ x = if zrch (zdlo n (n / 2)) n = true then 1 else 0) := by
  have e0 : w32 (Int.tdiv (n : Int) 2) = ((n / 2 : Nat) : Int) := by
    rw [show Int.tdiv (n : Int) 2 = ((n / 2 : Nat) : Int) from rfl, w32_id (by omega)]
  have e1 : w32 (Int.tdiv (n : Int) 64) = ((n / 64 : Nat) : Int) := by
    rw [show Int.tdiv (n : Int) 64 = ((n / 64 : Nat) : Int) from rfl, w32_id (by omega)]
  intro c
  induction c with
  | zero =>
    intro k H hk hf hB
    have : k = n / 2 := by omega
    subst this
    refine x74_34 ⟨fun _ => ?_, fun q => by rw [e0] at q; omega⟩
    rw [e1, show Int.tmod (n : Int) 64 = ((n % 64 : Nat) : Int) from rfl]
    refine ⟨fun q => by omega, fun _ => ⟨by omega, ?_⟩⟩
    have eb : zbt (zushrL (H 52 ((n / 64 : Nat) : Int)) ((n % 64 : Nat) : Int)) 0 = zrch (zdlo n (n / 2)) n := by
      rw [zbt_ushr (by omega), hB (n / 64) (by omega) _ (by omega), show 64 * (n / 64) + (n % 64 + 0) = n by omega]
    rw [zbt_and, eb]
    refine ⟨fun q => ⟨hf, ?_⟩, fun q => ⟨hf, ?_⟩⟩
    · by_cases z : zrch (zdlo n (n / 2)) n = true
      · rw [if_pos z] at q; exact absurd rfl q
      · rw [if_neg z]
    · by_cases z : zrch (zdlo n (n / 2)) n = true
      · rw [if_pos z]
      · rw [if_neg z] at q; exact absurd q (by decide)
  | succ c ih =>
    intro k H hk hf hB
    refine x74_34 ⟨fun q => by rw [e0] at q; omega, fun _ => ⟨by omega, ?_⟩⟩
    rw [ztmod, zi1 (by omega)]
    refine ⟨fun q => ?_, fun q => ?_⟩
    · refine ih (k + 1) H (by omega) hf ?_
      rw [zdlo_s, if_neg (by omega), List.append_nil]; exact hB
    · obtain ⟨H1, ⟨f1, B1⟩, e⟩ := c75 (w := w) (d := d) (H := H) (f := zrch (zdlo n k)) (k := k + 1) (by omega) hB
      rw [e]
      refine ih (k + 1) H1 (by omega) (fun a j q2 => (f1 a j q2).trans (hf a j q2)) ?_
      rw [zdlo_s, if_pos (by omega), zrch_app]; exact B1
theorem c74 {n : Nat} (h1 : 1 ≤ n) (hn : n ≤ 3000) : ∃ H', zf52 H H' ∧ ∀ K : Int → zHt → Prop, zclI w (d + 1) 74 [zR 32, zI n] H K = K (if zrch (zdlo n (n / 2)) n = true then 1 else 0) H' := by
  have := zclI_ex (x74_0 (c74a (w := w) (d := d) (H0 := H) (n := n) (K := fun x H' => zf52 H H' ∧ x = if zrch (zdlo n (n / 2)) n = true then 1 else 0) rfl 47 0 H (by omega) (fun _ _ _ => rfl) (fun j hj => by omega) (fun H' f B => c74b h1 hn (n / 2) 0 H' (by omega) f B)))
  obtain ⟨x, H', ⟨f, rfl⟩, e⟩ := this
  exact ⟨H', f, e⟩
end Z74d
noncomputable def zwho (n : Nat) : Int := if zrch (zdlo n (n / 2)) n = true then 1 else if n < (zdlo n (n / 2)).sum then 2 else 0
noncomputable def zAwho (v : Int) : Int × Int := if 1 ≤ v ∧ v ≤ 3000 then (0, zwho v.toNat) else (1, -1)
theorem zwho_lt {n : Nat} (h1 : 1 ≤ n) (h : (zdlo n (n / 2)).sum < n) : zwho n = 0 := by
  unfold zwho
  rw [if_neg, if_neg (by omega)]
  intro q
  have := zrch_le (l := zdlo n (n / 2)) (f := fun s => decide (s = 0)) (t := 0) (fun s hs => by have := of_decide_eq_true hs; omega) n q
  omega
theorem zwho_eq {n : Nat} (h : (zdlo n (n / 2)).sum = n) : zwho n = 1 := by
  unfold zwho
  have := zrch_all (l := zdlo n (n / 2)) (f := fun s => decide (s = 0)) (t := 0) rfl
  rw [Nat.zero_add, h] at this
  exact if_pos this
section Z74e
variable {w : zWt} {d : Nat} {H : zHt}
theorem b73 {v : Int} (hMR : zMR) : zclI w (d + 5) 73 [zR 32, zI v] H (zPC H (zAwho v)) := by
  unfold zAwho
  by_cases hg : 1 ≤ v ∧ v ≤ 3000
  · rw [if_pos hg]
    obtain ⟨n, rfl⟩ : ∃ n : Nat, v = n := ⟨v.toNat, by omega⟩
    rw [Int.toNat_natCast]
    have h1 : 1 ≤ n := by omega
    have hn : n ≤ 3000 := by omega
    have hG := zfac_good w h1 (by omega)
    obtain ⟨k1, k2⟩ := zkind_d h1 (by omega) hG
    obtain ⟨H1, f1, e1⟩ := c62 (w := w) (d := d) (H := H) (n := n) (law := 0) hMR h1 (by omega) (by omega)
    obtain ⟨H2, f2, e2⟩ := c74 (w := w) (d := d + 3) (H := H1) (n := n) h1 hn
    refine x73_0 ⟨fun q => by omega, fun _ => ⟨fun _ => ?_, fun q => by omega⟩⟩
    rw [e1, k1]
    have F1 : zcf H H1 := zcf_fc zcf_rfl f1
    have F2 : zcf H H2 := zcf_52 F1 f2
    by_cases z : (zdlo n (n / 2)).sum < n
    · rw [if_pos z, zwho_lt h1 z]
      exact ⟨fun q => absurd rfl q, fun _ => zPC_d F1 rfl⟩
    · rw [if_neg z]
      by_cases y : (zdlo n (n / 2)).sum = n
      · rw [if_pos y, zwho_eq y]
        exact ⟨fun _ => ⟨fun _ => zPC_d F1 rfl, fun q => absurd rfl q⟩, fun q => absurd q (by decide)⟩
      · rw [if_neg y]
        refine ⟨fun _ => ⟨fun q => absurd q (by decide), fun _ => ?_⟩, fun q => absurd q (by decide)⟩
        rw [e2]
        unfold zwho
        by_cases x : zrch (zdlo n (n / 2)) n = true
        · rw [if_pos x, if_pos x]
          exact ⟨fun q => absurd q (by decide), fun _ => zPC_d F2 rfl⟩
        · rw [if_neg x, if_neg x, if_pos (by omega)]
          exact ⟨fun _ => zPC_d F2 rfl, fun q => absurd rfl q⟩
  · have eA : (1, -1) = ((1 : Int), (-1 : Int)) := rfl
    rw [if_neg hg]
    refine x73_0 ?_
    repeat' (first | exact zPC_r zcf_rfl eA | omega | intro _ | with_reducible refine And.intro ?_ ?_)
-- the model's
def zf88 (H H' : zHt) : Prop := ∀ a j : Int, a ≠ 88 → H' a j = H a j
theorem zf88_up {H0 H : zHt} {i x : Int} (h : zf88 H0 H) : zf88 H0 (zup H 88 i x) := fun a j q => by rw [zq_ne (fun z => q z.1)]; exact h a j q
theorem zmf_88 {H0 H H1 : zHt} (h : zmf H0 H) (f : zf88 H H1) : zmf H0 H1 := zmf_tr h ⟨fun a j q => f a j (fun z => by subst z; cases q), f 32 14 (by decide)⟩
def zb01 (b : Bool) : Int := if b = true then 1 else 0
def zB8 (H : zHt) (n : Nat) (f : Nat → Bool) : Prop := ∀ k : Nat, k ≤ n → H 88 k = zb01 (f k)
theorem zb01_0 {b : Bool} : zb01 b = 0 ↔ b = false := by cases b <;> decide
theorem c196i {H0 : zHt} {f : Nat → Bool} {n p k t : Nat} {Q : zV → zHt → Prop} {K : Int → zHt → Prop} (hQ : Q = zQI K) (hn : n ≤ 3000) (hp : 1 ≤ p) (hK : ∀ H', zf88 H0 H' → zB8 H' n (zstp p f) → zgo w (d + 1) 196 63 [zR 81, zI n, zI t, zI (w32 ((k : Int) + 1)), zJ, zJ] [] H' Q) : ∀ (j : Nat) (H : zHt), j ≤ n → p ≤ j + 1 → zf88 H0 H → (∀ i : Nat, i ≤ n → H 88 i = zb01 (if j < i then zstp p f i else f i)) → zgo w (d + 1) 196 89 [zR 81, zI n, zI t, zI k, zI p, zI (j : Int)] [] H Q := by
  subst hQ
  have fin : ∀ (j : Nat) (H : zHt), j < p → zf88 H0 H → (∀ i : Nat, i ≤ n → H 88 i = zb01 (if j < i then zstp p f i else f i)) → zgo w (d + 1) 196 89 [zR 81, zI n, zI t, zI k, zI p, zI (j : Int)] [] H (zQI K) := fun j H hj hf hB => by
    refine x196_89 ⟨fun _ => hK H hf (fun i hi => ?_), fun q => by omega⟩
    rw [hB i hi]
    by_cases z : j < i
    · rw [if_pos z]
    · rw [if_neg z]
      unfold zstp
      rw [decide_eq_false (show ¬ p ≤ i by omega)]
      simp
  intro j
  induction j with
  | zero => intro H hj hpj hf hB; exact fin 0 H (by omega) hf hB
  | succ j ih =>
    intro H hj hpj hf hB
    by_cases z : j + 1 < p
    · exact fin (j + 1) H z hf hB
    · have e1 : w32 (((j + 1 : Nat) : Int) + -1) = (j : Int) := by rw [w32_id (by omega)]; omega
      have e2 : w32 (((j + 1 : Nat) : Int) - (p : Int)) = ((j + 1 - p : Nat) : Int) := by rw [w32_id (by omega)]; omega
      have ha := hB (j + 1) (by omega)
      rw [if_neg (by omega)] at ha
      have hb := hB (j + 1 - p) (by omega)
      rw [if_neg (by omega)] at hb
      have es : zstp p f (j + 1) = (f (j + 1) || f (j + 1 - p)) := by
        unfold zstp
        rw [decide_eq_true (show p ≤ j + 1 by omega), Bool.true_and]
      have up : ∀ x : Int, x = zb01 (zstp p f (j + 1)) → zgo w (d + 1) 196 89 [zR 81, zI n, zI t, zI k, zI p, zI (j : Int)] [] (zup H 88 ((j + 1 : Nat) : Int) x) (zQI K) := fun x hx => by
        refine ih _ (by omega) (by omega) (zf88_up hf) (fun i hi => ?_)
        by_cases y : i = j + 1
        · subst y
          rw [zq_eq, if_pos (by omega), hx]
        · rw [zq_ne (by omega), hB i hi]
          by_cases u : j + 1 < i
          · rw [if_pos u, if_pos (by omega)]
          · rw [if_neg u, if_neg (by omega)]
      refine x196_89 ⟨fun q => by omega, fun _ => ?_⟩
      rw [e1, e2]
      refine ⟨by omega, fun q => up 1 ?_, fun q => ⟨by omega, fun q2 => up 0 ?_, fun q2 => up 1 ?_⟩⟩
      · rw [ha, zb01_0] at q
        rw [es, show f (j + 1) = true by simpa using q]; rfl
      · rw [ha, zb01_0] at q
        rw [hb, zb01_0] at q2
        rw [es, q, q2]; rfl
      · rw [ha, zb01_0] at q
        rw [hb, zb01_0] at q2
        rw [es, q, show f (j + 1 - p) = true by simpa using q2]; rfl
theorem c196o {H0 Hs : zHt} {n : Nat} {A : Int × Int} (h1 : 1 ≤ n) (hn : n ≤ 3000) (hG : zGood n (zfac n)) (hA : A = (0, zwho n)) (hF : zmf Hs H0) (h0 : H0 81 0 = 0) (hD : zDv H0 (zdlo n n)) : ∀ (suf pre : List Nat) (H : zHt), zdlo n (n / 2) = pre ++ suf → zf88 H0 H → zB8 H n (zrch pre) → zgo w (d + 1) 196 63 [zR 81, zI n, zI ((pre.sum : Nat) : Int), zI (pre.length : Int), zJ, zJ] [] H (zQI (zPM Hs A)) := by
  obtain ⟨L1, L2⟩ := zdlo_len h1 (by omega) hG
  obtain ⟨-, k2⟩ := zkind_d h1 (by omega) hG
  have el := zdlo_last h1
  have ell : (zdlo n n).length = (zdlo n (n / 2)).length + 1 := by rw [el, List.length_append]; rfl
  intro suf
  induction suf with
  | nil =>
    intro pre H hp hf hB
    rw [List.append_nil] at hp
    have e1 : H 81 12 = ((zdlo n n).length : Int) := (hf 81 12 (by decide)).trans hD.1
    refine x196_63 ⟨fun _ => ⟨by omega, ?_⟩, fun q => ?_⟩
    · rw [hB n (Nat.le_refl _), zb01_0, ← hp]
      have F : zmf Hs H := zmf_88 hF hf
      have hs : H 81 0 = 0 := (hf 81 0 (by decide)).trans h0
      refine ⟨fun q => ⟨fun q2 => zPM_0 F hs ?_, fun q2 => zPM_0 F hs ?_⟩, fun q => zPM_0 F hs ?_⟩
      · rw [hA]; unfold zwho
        rw [if_neg (by rw [q]; decide), if_neg (by omega)]
      · rw [hA]; unfold zwho
        rw [if_neg (by rw [q]; decide), if_pos (by omega)]
      · rw [hA]; unfold zwho
        rw [if_pos (by simpa using q)]
    · rw [e1, w32_id (by omega), ell, hp] at q
      omega
  | cons p suf ih =>
    intro pre H hp hf hB
    have e1 : H 81 12 = ((zdlo n n).length : Int) := (hf 81 12 (by decide)).trans hD.1
    have hl : (zdlo n (n / 2)).length = pre.length + (suf.length + 1) := by rw [hp, List.length_append]; rfl
    have hpm : p ∈ zdlo n (n / 2) := by rw [hp]; simp
    have hpm := zdlo_mem.mp hpm
    have ep : H 87 (pre.length : Int) = (p : Int) := by
      rw [hf 87 _ (by decide), hD.2 pre.length (by omega), el, zgetD_app (by omega), hp, List.getD_eq_getElem?_getD, List.getElem?_append_right (Nat.le_refl _), Nat.sub_self]
      rfl
    have hsum : (zdlo n (n / 2)).sum = pre.sum + (p + suf.sum) := by rw [hp, List.sum_append_nat, List.sum_cons]
    refine x196_63 ⟨fun q => ?_, fun _ => ⟨by omega, ?_⟩⟩
    · rw [e1, w32_id (by omega), ell] at q
      omega
    · rw [ep, show w32 (((pre.sum : Nat) : Int) + (p : Int)) = (((pre ++ [p]).sum : Nat) : Int) by
        rw [w32_id (by omega), List.sum_append_nat, List.sum_cons, List.sum_nil]; omega]
      refine c196i (H0 := H) (f := zrch pre) rfl hn hpm.1 (fun H' f' B' => ?_) n H (Nat.le_refl _) (by omega) (fun _ _ _ => rfl) (fun i hi => ?_)
      · rw [show w32 ((pre.length : Int) + 1) = ((pre ++ [p]).length : Int) by rw [w32_id (by omega), List.length_append]; simp]
        refine ih (pre ++ [p]) H' (by rw [hp, List.append_assoc]; rfl) (fun a j q => (f' a j q).trans (hf a j q)) ?_
        rw [zrch_app]; exact B'
      · rw [if_neg (by omega)]; exact hB i hi
theorem c196z {H0 : zHt} {n : Nat} {Q : zV → zHt → Prop} {K : Int → zHt → Prop} (hQ : Q = zQI K) (hn : n ≤ 3000) (hK : ∀ H', zf88 H0 H' → zB8 H' n (zrch []) → zgo w (d + 1) 196 63 [zR 81, zI n, zI 0, zI 0, zJ, zJ] [] H' Q) : ∀ (c k : Nat) (H : zHt), k + c = n + 1 → zf88 H0 H → (∀ j : Nat, j < k → H 88 j = zb01 (zrch [] j)) → zgo w (d + 1) 196 33 [zR 81, zI n, zI (k : Int), zJ, zJ, zJ] [] H Q := by
  subst hQ
  intro c
  induction c with
  | zero =>
    intro k H hk hf hB
    exact x196_33 ⟨fun _ => hK H hf (fun j hj => hB j (by omega)), fun q => by omega⟩
  | succ c ih =>
    intro k H hk hf hB
    refine x196_33 ⟨fun q => by omega, fun _ => ?_⟩
    rw [zi1 (by omega)]
    refine ⟨fun q => ⟨by omega, ?_⟩, fun q => ⟨by omega, ?_⟩⟩
    · refine ih (k + 1) _ (by omega) (zf88_up hf) (fun j hj => ?_)
      by_cases z : j = k
      · subst z
        rw [zq_eq]
        show (0 : Int) = zb01 (decide (j = 0))
        rw [decide_eq_false (by omega)]; rfl
      · rw [zq_ne (by omega)]; exact hB j (by omega)
    · refine ih (k + 1) _ (by omega) (zf88_up hf) (fun j hj => ?_)
      by_cases z : j = k
      · subst z
        rw [zq_eq]
        show (1 : Int) = zb01 (decide (j = 0))
        rw [decide_eq_true (by omega)]; rfl
      · rw [zq_ne (by omega)]; exact hB j (by omega)
theorem b196 {v : Int} : zclI w (d + 3) 196 [zR 81, zI v] H (zPM H (zAwho v)) := by
  unfold zAwho
  by_cases hg : 1 ≤ v ∧ v ≤ 3000
  · rw [if_pos hg]
    obtain ⟨n, rfl⟩ : ∃ n : Nat, v = n := ⟨v.toNat, by omega⟩
    rw [Int.toNat_natCast]
    have h1 : 1 ≤ n := by omega
    have hn : n ≤ 3000 := by omega
    have hG := zfac_good w h1 (by omega)
    obtain ⟨H2, ⟨F2, D2⟩, e2⟩ := c194 (w := w) (d := d + 1) (H := zst H 0) (n := n) h1 (by omega)
    have F : zmf H H2 := zmf_fd (zst_f zmf_rfl) F2
    have h0 : H2 81 0 = 0 := by rw [F2 81 0 (by decide) (by decide)]; exact zst_0
    have G : zgo w (d + 3) 196 33 [zR 81, zI n, zI ((0 : Nat) : Int), zJ, zJ, zJ] [] H2 (zQI (zPM H (0, zwho n))) :=
      c196z (H0 := H2) rfl hn (fun H' f B => c196o h1 hn hG rfl F h0 D2 (zdlo n (n / 2)) [] H' rfl f B) (n + 1) 0 H2 (by omega) (fun _ _ _ => rfl) (fun j hj => by omega)
    refine x196_0 ?_
    rw [c173, if_pos hg]
    refine ⟨fun q => absurd q (by decide), fun _ => ?_⟩
    rw [c174_0]
    refine ⟨fun _ => ?_, fun q => absurd q (by decide)⟩
    rw [e2]
    exact G
  · rw [if_neg hg]
    refine x196_0 ?_
    rw [c173, if_neg hg]
    refine ⟨fun _ => ?_, fun q => absurd rfl q⟩
    rw [c174_1]
    exact ⟨fun q => absurd rfl q, fun _ => zPM_n zmf_rfl rfl⟩
end Z74e
theorem l581 {w : zWt} (hw : w.1 ≤ 3072) (hMR : zMR) : zLaw w (zKept zAllR) 581 := fun H i hi hR K nx => x0_581 (d := 1999) (by
  refine ⟨zidx hw hi (by decide) (by decide), ?_⟩
  have r1 : r32 (zH0 w.2 0 (w32 ((i : Int) + 1))) := zv_r
  generalize zH0 w.2 0 (w32 ((i : Int) + 1)) = v1 at r1 ⊢
  exact zcaseI (A := fun H => zAwho v1) (fun H H1 h => by simp only [h 40 4 rfl, h 40 1 rfl, h 40 2 rfl, h 40 3 rfl]) hR (fun hD hW => b73 (d := 1994) hMR) (fun H1 hD => b196 (d := 1996)) (fun x y H' hk e => nx H' hk))
