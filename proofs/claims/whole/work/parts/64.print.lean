/-! the case print -/
def zcst (p e : Nat) : Nat := zlg p + 2 + (if e ≤ 1 then 0 else zlg e + 2)
theorem zppw {a p k e : Nat} (h : a ≤ p) (h1 : 1 ≤ p) (hk : k ≤ e) : a ^ k ≤ p ^ e := Nat.le_trans (Nat.pow_le_pow_left h k) (Nat.pow_le_pow_right h1 hk)
theorem zv11_1 {p : Nat} : 1 ≤ zv11 p := by
  unfold zv11
  split
  · decide
  · split <;> decide
theorem zcst_bd {p e : Nat} (hp : zprime p) (he : 1 ≤ e) (hb : p ^ e ≤ 999999999) : 11 ^ zcst p e ≤ zv11 p * (p ^ e) ^ 3 := by
  have h2 := hp.1
  have h4 : p ≠ 4 := fun z => by subst z; rcases hp.2 2 ⟨2, rfl⟩ with y | y <;> omega
  have h10 : p ≠ 10 := fun z => by subst z; rcases hp.2 2 ⟨5, rfl⟩ with y | y <;> omega
  have he29 : e < 30 := by
    rcases Nat.lt_or_ge e 30 with z | z
    · exact z
    · have : 2 ^ 30 ≤ p ^ e := zppw h2 (by omega) z
      omega
  have hg : zlg p = 0 ∨ 10 ^ zlg p ≤ p := zlg_pw
  have hg8 : zlg p ≤ 8 := zlg_le
  have one : ∀ x : Nat, x ≤ (p ^ e) ^ 3 → x ≤ zv11 p * (p ^ e) ^ 3 := fun x hx => Nat.le_trans hx (Nat.le_mul_of_pos_left _ zv11_1)
  have cube : ∀ x : Nat, x ≤ p ^ e → x ^ 3 ≤ (p ^ e) ^ 3 := fun x hx => Nat.pow_le_pow_left hx 3
  unfold zcst
  rcases Nat.lt_or_ge 1 e with z | z
  · rw [if_neg (by omega)]
    have hz : zlg e ≤ 1 := zlg_sm (by omega)
    by_cases y : zlg p = 0
    · rw [y]
      rcases Nat.lt_or_ge e 10 with x | x
      · rw [zlg_0 x]
        by_cases q2 : p = 2
        · subst q2
          have := cube 4 (zppw (k := 2) (Nat.le_refl 2) (by omega) z)
          show 14641 ≤ 229 * _
          omega
        · by_cases q3 : p = 3
          · subst q3
            have := cube 9 (zppw (k := 2) (Nat.le_refl 3) (by omega) z)
            show 14641 ≤ 21 * _
            omega
          · have := cube 25 (zppw (a := 5) (k := 2) (by omega) (by omega) z)
            refine one _ ?_
            show 14641 ≤ _
            omega
      · have h5 : 11 ^ (0 + 2 + (zlg e + 2)) ≤ 161051 := Nat.pow_le_pow_right (by decide) (show 0 + 2 + (zlg e + 2) ≤ 5 by omega)
        have := cube 1024 (zppw (a := 2) (k := 10) h2 (by omega) x)
        refine one _ ?_
        omega
    · have hg := hg.resolve_left y
      have h1 : 10 ^ 1 ≤ 10 ^ zlg p := Nat.pow_le_pow_right (by decide) (by omega)
      have x : e < 10 := by
        rcases Nat.lt_or_ge e 10 with x | x
        · exact x
        · have : 10 ^ 10 ≤ p ^ e := zppw (by omega) (by omega) x
          omega
      rw [zlg_0 x]
      refine one _ (Nat.le_trans ?_ (cube ((10 ^ zlg p) ^ 2) (zppw hg (by omega) z)))
      rw [← Nat.pow_mul, ← Nat.pow_mul]
      generalize zlg p = g at hg8 y
      exact (by decide : ∀ g : Nat, g ≤ 8 → g ≠ 0 → 11 ^ (g + 2 + (0 + 2)) ≤ 10 ^ (g * (2 * 3))) g hg8 y
  · have e1 : e = 1 := by omega
    subst e1
    rw [if_pos (by omega), Nat.add_zero]
    by_cases y : zlg p = 0
    · rw [y]
      by_cases q2 : p = 2
      · subst q2; decide
      · by_cases q3 : p = 3
        · subst q3; decide
        · have := cube 5 (by rw [Nat.pow_one]; omega)
          refine one _ ?_
          show 121 ≤ _
          omega
    · have hg := hg.resolve_left y
      by_cases y1 : zlg p = 1
      · rw [y1] at hg ⊢
        refine one _ (cube 11 (by rw [Nat.pow_one]; omega))
      · refine one _ (Nat.le_trans ?_ (cube (10 ^ zlg p) (by rw [Nat.pow_one]; exact hg)))
        rw [← Nat.pow_mul]
        generalize zlg p = g at hg8 y y1
        exact (by decide : ∀ g : Nat, g ≤ 8 → g ≠ 0 → g ≠ 1 → 11 ^ (g + 2) ≤ 10 ^ (g * 3)) g hg8 y y1
def zcsl : List (Nat × Nat) → Nat
  | [] => 0
  | q :: l => zcst q.1 q.2 + zcsl l
theorem zfts_len : ∀ {l : List (Nat × Nat)}, (zfts l).length = zcsl l
  | [] => rfl
  | q :: l => by
    show (zpe q.1 q.2 ++ zfts l).length + 1 = zcst q.1 q.2 + zcsl l
    rw [List.length_append, zpe_len, zfts_len (l := l)]
    unfold zcst
    omega
def zW11 (b : Nat) : Nat := if b ≤ 2 then 4809 else if b ≤ 3 then 21 else 1
theorem zvW {p b : Nat} (hp : 2 ≤ p) (h : b ≤ p) : zv11 p * zW11 (p + 1) ≤ zW11 b := by
  unfold zv11 zW11
  by_cases q2 : p = 2
  · subst q2; rw [if_pos rfl, if_neg (by omega), if_pos (by omega), if_pos h]; decide
  · by_cases q3 : p = 3
    · subst q3; rw [if_neg q2, if_pos rfl, if_neg (by omega), if_neg (by omega)]
      split
      · decide
      · decide
    · rw [if_neg q2, if_neg q3, if_neg (by omega), if_neg (by omega)]
      split
      · decide
      · split <;> decide
theorem zcsl_bd : ∀ {l : List (Nat × Nat)} {b : Nat}, (l.map Prod.fst).Pairwise (· < ·) → (∀ q ∈ l, zprime q.1 ∧ 1 ≤ q.2) → (∀ q ∈ l, b ≤ q.1) → zprod l ≤ 999999999 → 11 ^ zcsl l ≤ zW11 b * zprod l ^ 3
  | [], b, _, _, _, _ => by
    show 1 ≤ zW11 b * 1 ^ 3
    unfold zW11
    split
    · decide
    · split <;> decide
  | (p, e) :: l, b, h1, h2, h3, h4 => by
    rw [List.map_cons, List.pairwise_cons] at h1
    obtain ⟨hp, he⟩ := h2 (p, e) List.mem_cons_self
    have hl : 0 < zprod l := zprod_pos (fun q hq => h2 q (List.mem_cons_of_mem _ hq))
    have hx : 0 < p ^ e := Nat.pow_pos (by have := hp.1; omega)
    rw [zprod_cons] at h4 ⊢
    have a1 := zcst_bd hp he (Nat.le_trans (Nat.le_mul_of_pos_right _ hl) h4)
    have a2 := zcsl_bd (l := l) (b := p + 1) h1.2 (fun q hq => h2 q (List.mem_cons_of_mem _ hq)) (fun q hq => h1.1 _ (List.mem_map_of_mem hq)) (Nat.le_trans (Nat.le_mul_of_pos_left _ hx) h4)
    show 11 ^ (zcst p e + zcsl l) ≤ _
    rw [Nat.pow_add]
    refine Nat.le_trans (Nat.mul_le_mul a1 a2) ?_
    rw [Nat.mul_pow, show zv11 p * (p ^ e) ^ 3 * (zW11 (p + 1) * zprod l ^ 3) = zv11 p * zW11 (p + 1) * ((p ^ e) ^ 3 * zprod l ^ 3) by
      rw [Nat.mul_mul_mul_comm]]
    exact Nat.mul_le_mul_right _ (zvW hp.1 (h3 (p, e) List.mem_cons_self))
theorem zftx_len {n : Nat} {l : List (Nat × Nat)} (hn : n ≤ 999999999) (h2 : 2 ≤ n) (hG : zGood n l) : (zfts l).length ≤ 29 ∧ (zftx l).length ≤ 28 := by
  have h := zcsl_bd (b := 0) hG.1 hG.2.1 (fun q _ => Nat.zero_le _) (by rw [hG.2.2]; exact hn)
  rw [hG.2.2] at h
  have h3 : n ^ 3 ≤ 999999999 ^ 3 := Nat.pow_le_pow_left hn 3
  have h4 : 11 ^ zcsl l < 11 ^ 30 := Nat.lt_of_le_of_lt (Nat.le_trans h (Nat.mul_le_mul_left 4809 h3)) (by decide)
  have h5 : zcsl l < 30 := (Nat.pow_lt_pow_iff_right (by decide)).mp h4
  have h6 := zfts_ftx (zGood_ne h2 hG)
  have h7 := zfts_len (l := l)
  omega
noncomputable def zvtx (n : Nat) : List Int := if n ≤ 1 then zntx n else zftx (zfac n)
noncomputable def zrts : List Int → List Int
  | [] => []
  | v :: l => 32 :: (zvtx v.toNat ++ zrts l)
noncomputable def zrtx : List Int → List Int
  | [] => []
  | v :: l => zvtx v.toNat ++ zrts l
section Z64
variable {w : zWt} {d : Nat} {H : zHt}
theorem zvtx_len {n : Nat} (w : zWt) (hn : n ≤ 999999999) : (zvtx n).length ≤ 28 := by
  unfold zvtx
  by_cases h : n ≤ 1
  · rw [if_pos h, zntx_len]; have := zlg_le (n := n); omega
  · rw [if_neg h]
    obtain ⟨_, ⟨_, hG, _⟩, _⟩ := c177 (w := w) (H := fun _ _ => 0) (d := 0) (n := n) (by omega) hn
    exact (zftx_len hn (by omega) hG).2
theorem zrts_len (w : zWt) : ∀ {l : List Int}, (∀ v ∈ l, 0 ≤ v ∧ v ≤ 999999999) → (zrts l).length ≤ 29 * l.length
  | [], _ => Nat.le_refl _
  | v :: l, h => by
    have h1 := zvtx_len w (n := v.toNat) (by have := h v List.mem_cons_self; omega)
    have h2 := zrts_len w (l := l) (fun x hx => h x (List.mem_cons_of_mem _ hx))
    show (zvtx v.toNat ++ zrts l).length + 1 ≤ 29 * (l.length + 1)
    rw [List.length_append]; omega
theorem zLst_wl {A P J c k B C : Int} {S : List Int} {l : List (Nat × Nat)} {m : Nat} (hA : A ≠ P) (hm : H P J = (m : Int)) (hb : m + S.length ≤ 6000) (h1 : ¬ (c = P ∧ k = J) ∧ c ≠ A) (h2 : B ≠ P ∧ B ≠ A) (h3 : C ≠ P ∧ C ≠ A) (h : zLst H c k B C l) : zLst (zwl A P J S H) c k B C l := by
  obtain ⟨-, -, f⟩ := zwl_at hA hm hb
  refine ⟨by rw [f c k h1.1 (fun z => h1.2 z.1)]; exact h.1, fun i q hq => ?_⟩
  rw [f B i (fun z => h2.1 z.1) (fun z => h2.2 z.1), f C i (fun z => h3.1 z.1) (fun z => h3.2 z.1)]
  exact h.2 i q hq
theorem zwl_pe {A P J : Int} {p e : Nat} (h : 1 < e) : zwl A P J (zpe p e) H = zwl A P J (zntx e) (zwr A P J 94 (zwl A P J (zntx p) H)) := by
  unfold zpe
  rw [if_neg (by omega), zwl_app]; rfl
theorem zwl_pe1 {A P J : Int} {p e : Nat} (h : e ≤ 1) : zwl A P J (zpe p e) H = zwl A P J (zntx p) H := by
  unfold zpe
  rw [if_pos h, List.append_nil]
-- the class
theorem c166s {l pre suf : List (Nat × Nat)} {q : Nat × Nat} {K : zHt → Prop} {m : Nat} (hl : l = pre ++ q :: suf) (h9 : l.length ≤ 9) (hq : q.1 ≤ 999999999 ∧ 1 ≤ q.2 ∧ q.2 ≤ 999999999) (hL : zLst H 36 3 37 38 l) (hm : H 48 1 = (m : Int)) (hb : m + 30 ≤ 3232) (h : zgo w (d + 2) 166 18 [zR 48, zJ, zR 36, zI (((pre ++ [q]).length : Nat) : Int)] [] (zwl 49 48 1 (zpe q.1 q.2) H) (zQV K)) : zgo w (d + 2) 166 36 [zR 48, zJ, zR 36, zI pre.length] [] H (zQV K) := by
  have hpl : pre.length < l.length := by rw [hl, List.length_append, List.length_cons]; omega
  have hc : (((pre ++ [q]).length : Nat) : Int) = w32 ((pre.length : Int) + 1) := by rw [zi1 (by omega), List.length_append]; rfl
  rw [hc] at h
  subst hl
  obtain ⟨e1, e2⟩ := zLst_at hL
  have g8 := zlg_le (n := q.1)
  have gl : (zntx q.1).length = zlg q.1 + 1 := zntx_len
  obtain ⟨b1, -, b3⟩ := zwl_at (A := 49) (P := 48) (J := 1) (S := zntx q.1) (by decide) hm (by omega)
  refine x166_36 ⟨by omega, ?_⟩
  rw [e1, c167 hq.1 hm (by omega), b3 38 _ (by omega) (by omega), e2]
  refine ⟨fun z => ?_, fun z => ?_⟩
  · rw [zwl_pe1 (by omega)] at h; exact h
  · rw [c165 (by omega)]
    have f3 : zwr 49 48 1 94 (zwl 49 48 1 (zntx q.1) H) 38 (pre.length : Int) = q.2 := by
      unfold zwr
      rw [zq_ne (by omega), zq_ne (by omega), b3 38 _ (by omega) (by omega), e2]
    rw [f3, c167 hq.2.2 (zwr_P b1 (by omega)) (by omega)]
    rw [zwl_pe (by omega)] at h; exact h
theorem c166l {l : List (Nat × Nat)} {K : zHt → Prop} (h9 : l.length ≤ 9) (hl : ∀ q ∈ l, q.1 ≤ 999999999 ∧ 1 ≤ q.2 ∧ q.2 ≤ 999999999) : ∀ {suf pre : List (Nat × Nat)} {H : zHt} {m : Nat}, l = pre ++ suf → 1 ≤ pre.length → zLst H 36 3 37 38 l → H 48 1 = (m : Int) → m + (zfts suf).length + 40 ≤ 3232 → K (zwl 49 48 1 (zfts suf) H) → zgo w (d + 2) 166 18 [zR 48, zJ, zR 36, zI pre.length] [] H (zQV K)
  | [], pre, H, m, e, h1, hL, hm, hb, h => x166_18 ⟨fun _ => h, fun q => by rw [hL.1, e, List.append_nil] at q; omega⟩
  | q :: suf, pre, H, m, e, h1, hL, hm, hb, h => x166_18 ⟨fun z => by rw [hL.1, e, List.length_append, List.length_cons] at z; omega, fun _ => ⟨fun z => by omega, fun _ => by
      have hlen : (zfts (q :: suf)).length = (zpe q.1 q.2).length + (zfts suf).length + 1 := by show (zpe q.1 q.2 ++ zfts suf).length + 1 = _; rw [List.length_append]
      rw [c165 (by omega)]
      have hm1 : zwr 49 48 1 42 H 48 1 = ((m + 1 : Nat) : Int) := zwr_P hm (by omega)
      have hL1 : zLst (zwr 49 48 1 42 H) 36 3 37 38 l := zLst_wl (S := [42]) (by decide) hm (by show m + 1 ≤ 6000; omega) (by decide) (by decide) (by decide) hL
      obtain ⟨b1, -, -⟩ := zwl_at (A := 49) (P := 48) (J := 1) (S := zpe q.1 q.2) (by decide) hm1 (by omega)
      refine c166s e h9 (hl q (by rw [e]; simp)) hL1 hm1 (by omega) ?_
      refine c166l h9 hl (suf := suf) (pre := pre ++ [q]) (by rw [e]; simp) (by rw [List.length_append]; omega) (zLst_wl (by decide) hm1 (by omega) (by decide) (by decide) (by decide) hL1) b1 (by omega) ?_
      rw [← zwl_app]; exact h⟩⟩
theorem c166 {n m : Nat} (hMR : zMR) (hn : n ≤ 999999999) (hm : H 48 1 = (m : Int)) (hb : m + 80 ≤ 3232) : ∃ H1, zfc H H1 ∧ ∀ K : zHt → Prop, zclV w (d + 3) 166 [zR 48, zI n, zR 36] H K = K (zwl 49 48 1 (zvtx n) H1) := by
  by_cases h : n ≤ 1
  · refine ⟨H, zfc_rfl, fun K => zclV_eq fun K k => x166_0 ⟨fun q => by omega, fun _ => ?_⟩⟩
    rw [c167 hn hm (by omega)]
    unfold zvtx at k
    rw [if_pos h] at k; exact k
  · obtain ⟨H1, ⟨f1, hG, hL⟩, e1⟩ := c45 (w := w) (d := d) (n := n) (H := H) hMR (by omega) hn
    refine ⟨H1, f1, fun K => zclV_eq fun K k => x166_0 ⟨fun _ => ?_, fun q => by omega⟩⟩
    rw [e1]
    have hm1 : H1 48 1 = (m : Int) := by rw [f1 48 1 (by decide) (by decide) (by omega)]; exact hm
    have h9 := zGood_nine hG (by omega)
    have hb9 : ∀ q ∈ zfac n, q.1 ≤ 999999999 ∧ 1 ≤ q.2 ∧ q.2 ≤ 999999999 := fun q hq => by
      have := zGood_bd hG hq; omega
    have hl := zftx_len hn (by omega) hG
    unfold zvtx at k
    rw [if_neg h] at k
    generalize zfac n = l at hG hL h9 hb9 hl k
    cases l with
    | nil => exact absurd rfl (zGood_ne (by omega) hG)
    | cons q l =>
      have hlen : (zftx (q :: l)).length = (zpe q.1 q.2).length + (zfts l).length := by show (zpe q.1 q.2 ++ zfts l).length = _; rw [List.length_append]
      obtain ⟨b1, -, -⟩ := zwl_at (A := 49) (P := 48) (J := 1) (S := zpe q.1 q.2) (by decide) hm1 (by omega)
      refine x166_18 ⟨fun z => by rw [hL.1, List.length_cons] at z; omega, fun _ => ⟨fun _ => ?_, fun z => absurd z (by decide)⟩⟩
      refine c166s (pre := []) (suf := l) rfl h9 (hb9 q List.mem_cons_self) hL hm1 (by omega) ?_
      refine c166l h9 hb9 (suf := l) (pre := [q]) rfl (Nat.le_refl 1) (zLst_wl (by decide) hm1 (by omega) (by decide) (by decide) (by decide) hL) b1 (by omega) ?_
      rw [← zwl_app]; exact k
-- the model
theorem c272s {l pre suf : List (Nat × Nat)} {q : Nat × Nat} {K : zHt → Prop} {m : Nat} (hl : l = pre ++ q :: suf) (h9 : l.length ≤ 9) (hq : q.1 ≤ 999999999 ∧ 1 ≤ q.2 ∧ q.2 ≤ 999999999) (hL : zLst H 81 8 85 86 l) (hm : H 81 29 = (m : Int)) (hb : m + 30 ≤ 3232) (h : zgo w (d + 2) 272 18 [zR 81, zJ, zI (((pre ++ [q]).length : Nat) : Int)] [] (zwl 98 81 29 (zpe q.1 q.2) H) (zQV K)) : zgo w (d + 2) 272 36 [zR 81, zJ, zI pre.length] [] H (zQV K) := by
  have hpl : pre.length < l.length := by rw [hl, List.length_append, List.length_cons]; omega
  have hc : (((pre ++ [q]).length : Nat) : Int) = w32 ((pre.length : Int) + 1) := by rw [zi1 (by omega), List.length_append]; rfl
  rw [hc] at h
  subst hl
  obtain ⟨e1, e2⟩ := zLst_at hL
  have g8 := zlg_le (n := q.1)
  have gl : (zntx q.1).length = zlg q.1 + 1 := zntx_len
  obtain ⟨b1, -, b3⟩ := zwl_at (A := 98) (P := 81) (J := 29) (S := zntx q.1) (by decide) hm (by omega)
  refine x272_36 ⟨by omega, ?_⟩
  rw [e1, c273 hq.1 hm (by omega), b3 86 _ (by omega) (by omega), e2]
  refine ⟨fun z => ?_, fun z => by rw [zwl_pe1 (by omega)] at h; exact h⟩
  · rw [c271 (by omega)]
    have f3 : zwr 98 81 29 94 (zwl 98 81 29 (zntx q.1) H) 86 (pre.length : Int) = q.2 := by
      unfold zwr
      rw [zq_ne (by omega), zq_ne (by omega), b3 86 _ (by omega) (by omega), e2]
    rw [f3, c273 hq.2.2 (zwr_P b1 (by omega)) (by omega)]
    rw [zwl_pe (by omega)] at h; exact h
theorem c272l {l : List (Nat × Nat)} {K : zHt → Prop} (h9 : l.length ≤ 9) (hl : ∀ q ∈ l, q.1 ≤ 999999999 ∧ 1 ≤ q.2 ∧ q.2 ≤ 999999999) : ∀ {suf pre : List (Nat × Nat)} {H : zHt} {m : Nat}, l = pre ++ suf → 1 ≤ pre.length → zLst H 81 8 85 86 l → H 81 29 = (m : Int) → m + (zfts suf).length + 40 ≤ 3232 → K (zwl 98 81 29 (zfts suf) H) → zgo w (d + 2) 272 18 [zR 81, zJ, zI pre.length] [] H (zQV K)
  | [], pre, H, m, e, h1, hL, hm, hb, h => x272_18 ⟨fun _ => h, fun q => by rw [hL.1, e, List.append_nil] at q; omega⟩
  | q :: suf, pre, H, m, e, h1, hL, hm, hb, h => x272_18 ⟨fun z => by rw [hL.1, e, List.length_append, List.length_cons] at z; omega, fun _ => ⟨fun z => by omega, fun _ => by
      have hlen : (zfts (q :: suf)).length = (zpe q.1 q.2).length + (zfts suf).length + 1 := by show (zpe q.1 q.2 ++ zfts suf).length + 1 = _; rw [List.length_append]
      rw [c271 (by omega)]
      have hm1 : zwr 98 81 29 42 H 81 29 = ((m + 1 : Nat) : Int) := zwr_P hm (by omega)
      have hL1 : zLst (zwr 98 81 29 42 H) 81 8 85 86 l := zLst_wl (S := [42]) (by decide) hm (by show m + 1 ≤ 6000; omega) (by decide) (by decide) (by decide) hL
      obtain ⟨b1, -, -⟩ := zwl_at (A := 98) (P := 81) (J := 29) (S := zpe q.1 q.2) (by decide) hm1 (by omega)
      refine c272s e h9 (hl q (by rw [e]; simp)) hL1 hm1 (by omega) ?_
      refine c272l h9 hl (suf := suf) (pre := pre ++ [q]) (by rw [e]; simp) (by rw [List.length_append]; omega) (zLst_wl (by decide) hm1 (by omega) (by decide) (by decide) (by decide) hL1) b1 (by omega) ?_
      rw [← zwl_app]; exact h⟩⟩
theorem c272 {n m : Nat} (hn : n ≤ 999999999) (hm : H 81 29 = (m : Int)) (hb : m + 80 ≤ 3232) : ∃ H1, zfm H H1 ∧ ∀ K : zHt → Prop, zclV w (d + 3) 272 [zR 81, zI n] H K = K (zwl 98 81 29 (zvtx n) H1) := by
  by_cases h : n ≤ 1
  · refine ⟨H, (fun _ _ _ _ _ => rfl), fun K => zclV_eq fun K k => x272_0 ⟨fun q => by omega, fun _ => ?_⟩⟩
    rw [c273 hn hm (by omega)]
    unfold zvtx at k
    rw [if_pos h] at k; exact k
  · obtain ⟨H1, ⟨f1, hG, hL⟩, e1⟩ := c177 (w := w) (d := d + 2) (n := n) (H := H) (by omega) hn
    refine ⟨H1, f1, fun K => zclV_eq fun K k => x272_0 ⟨fun _ => ?_, fun q => by omega⟩⟩
    rw [e1]
    have hm1 : H1 81 29 = (m : Int) := by rw [f1 81 29 (by decide) (by decide) (by omega)]; exact hm
    have h9 := zGood_nine hG (by omega)
    have hb9 : ∀ q ∈ zfac n, q.1 ≤ 999999999 ∧ 1 ≤ q.2 ∧ q.2 ≤ 999999999 := fun q hq => by
      have := zGood_bd hG hq; omega
    have hl := zftx_len hn (by omega) hG
    unfold zvtx at k
    rw [if_neg h] at k
    generalize zfac n = l at hG hL h9 hb9 hl k
    cases l with
    | nil => exact absurd rfl (zGood_ne (by omega) hG)
    | cons q l =>
      have hlen : (zftx (q :: l)).length = (zpe q.1 q.2).length + (zfts l).length := by show (zpe q.1 q.2 ++ zfts l).length = _; rw [List.length_append]
      obtain ⟨b1, -, -⟩ := zwl_at (A := 98) (P := 81) (J := 29) (S := zpe q.1 q.2) (by decide) hm1 (by omega)
      refine x272_18 ⟨fun z => by rw [hL.1, List.length_cons] at z; omega, fun _ => ⟨fun _ => ?_, fun z => absurd z (by decide)⟩⟩
      refine c272s (pre := []) (suf := l) rfl h9 (hb9 q List.mem_cons_self) hL hm1 (by omega) ?_
      refine c272l h9 hb9 (suf := l) (pre := [q]) rfl (Nat.le_refl 1) (zLst_wl (by decide) hm1 (by omega) (by decide) (by decide) (by decide) hL) b1 (by omega) ?_
      rw [← zwl_app]; exact k
end Z64
