/-! the case same -/
theorem zins_get {e : Nat} : ∀ {S : List Nat} {p : Nat} (k : Nat), p ≤ S.length → (∀ i, i < p → e ≤ S.getD i 0) → (p < S.length → S.getD p 0 < e) → (zins e S).getD k 0 = if k < p then S.getD k 0 else if k = p then e else S.getD (k - 1) 0
  | [], p, k, hp, _, _ => by
    have hp : p = 0 := by simpa using hp
    subst hp
    cases k with
    | zero => rfl
    | succ k => rfl
  | x :: S, 0, k, _, _, h => by
    have hx : x < e := h (Nat.succ_pos _)
    unfold zins
    rw [if_pos hx]
    cases k with
    | zero => rfl
    | succ k => rw [if_neg (by omega), if_neg (by omega)]; rfl
  | x :: S, p + 1, k, hp, h1, h2 => by
    have hx : e ≤ x := h1 0 (Nat.succ_pos _)
    unfold zins
    rw [if_neg (by omega)]
    cases k with
    | zero => rw [if_pos (Nat.succ_pos _)]; rfl
    | succ k =>
      have ih := zins_get (e := e) (S := S) (p := p) k (by rw [List.length_cons] at hp; omega) (fun i hi => h1 (i + 1) (by omega)) (fun q => h2 (by rw [List.length_cons]; omega))
      show (zins e S).getD k 0 = _
      rw [ih]
      by_cases z : k < p
      · rw [if_pos z, if_pos (by omega)]; rfl
      · rw [if_neg z, if_neg (show ¬ (k + 1 < p + 1) by omega)]
        by_cases y : k = p
        · rw [if_pos y, if_pos (show k + 1 = p + 1 by omega)]
        · rw [if_neg y, if_neg (show ¬ (k + 1 = p + 1) by omega)]
          obtain ⟨m, rfl⟩ : ∃ m, k = m + 1 := ⟨k - 1, by omega⟩
          rfl
theorem zsrt_get : ∀ {S : List Nat} {i j : Nat}, S.Pairwise (· ≥ ·) → i ≤ j → j < S.length → S.getD j 0 ≤ S.getD i 0
  | [], i, j, _, _, hj => absurd hj (Nat.not_lt_zero j)
  | x :: S, 0, 0, _, _, _ => Nat.le_refl _
  | x :: S, 0, j + 1, h, _, hj => by
    rw [List.pairwise_cons] at h
    have hj : j < S.length := by rw [List.length_cons] at hj; omega
    refine h.1 (S.getD j 0) ?_
    rw [List.getD_eq_getElem?_getD, List.getElem?_eq_getElem hj]; exact List.getElem_mem _
  | x :: S, i + 1, 0, _, hi, _ => by omega
  | x :: S, i + 1, j + 1, h, hi, hj => by
    rw [List.pairwise_cons] at h
    exact zsrt_get (S := S) h.2 (by omega) (by rw [List.length_cons] at hj; omega)
def zfst (H0 H : zHt) : Prop := ∀ a j : Int, a ≠ 39 → H a j = H0 a j
theorem zPw_pos : ∀ {m S : List Nat}, (∀ p ∈ m, 1 ≤ p) → 1 ≤ zPw m S
  | [], _, _ => Nat.le_refl _
  | _ :: _, [], _ => Nat.le_refl _
  | p :: m, e :: S, h => Nat.mul_pos (Nat.pow_pos (h p List.mem_cons_self)) (zPw_pos (fun q hq => h q (List.mem_cons_of_mem _ hq)))
section Z68
variable {w : zWt} {d : Nat} {H : zHt}
theorem c149i {H0 : zHt} {S : List Nat} {e i : Nat} {K : zHt → Prop} (hS : S.Pairwise (· ≥ ·)) (hl : S.length = i) (h9 : i < 9) (hE : H0 38 (i : Int) = (e : Int)) (hK : ∀ H', zfst H0 H' → (∀ k : Nat, k < i + 1 → H' 39 k = (((zins e S).getD k 0 : Nat) : Int)) → zgo w d 149 2 [zR 36, zI ((i + 1 : Nat) : Int), zJ] [] H' (zQV K)) : ∀ (p : Nat) (H : zHt), p ≤ i → zfst H0 H → (∀ k : Nat, k < p → H 39 k = ((S.getD k 0 : Nat) : Int)) → (∀ k : Nat, p ≤ k → k < i → H 39 ((k + 1 : Nat) : Int) = ((S.getD k 0 : Nat) : Int) ∧ S.getD k 0 < e) → zgo w d 149 12 [zR 36, zI i, zI p] [] H (zQV K) := by
  have fin : ∀ (p : Nat) (H : zHt), p ≤ i → zfst H0 H → (∀ k : Nat, k < p → H 39 k = ((S.getD k 0 : Nat) : Int)) → (∀ k : Nat, p ≤ k → k < i → H 39 ((k + 1 : Nat) : Int) = ((S.getD k 0 : Nat) : Int) ∧ S.getD k 0 < e) → (∀ k, k < p → e ≤ S.getD k 0) → zgo w d 149 2 [zR 36, zI ((i + 1 : Nat) : Int), zJ] [] (zup H 39 p (e : Int)) (zQV K) := by
    intro p H hp f h1 h2 h3
    refine hK _ (fun a j q => by rw [zq_ne (fun z => q z.1)]; exact f a j q) (fun k hk => ?_)
    rw [zins_get k (by omega) h3 (fun q => (h2 p (Nat.le_refl _) (by omega)).2)]
    by_cases z : k < p
    · rw [if_pos z, zq_ne (by omega)]; exact h1 k z
    · rw [if_neg z]
      by_cases y : k = p
      · rw [if_pos y, y, zq_eq]
      · rw [if_neg y, zq_ne (by omega)]
        obtain ⟨m, rfl⟩ : ∃ m, k = m + 1 := ⟨k - 1, by omega⟩
        exact (h2 m (by omega) (by omega)).1
  intro p
  induction p with
  | zero =>
    intro H hp f h1 h2
    refine x149_12 ⟨fun _ => ⟨by omega, by omega, ?_⟩, fun q => by omega⟩
    rw [zi1 (by omega), f 38 _ (by omega), hE]
    exact fin 0 H hp f h1 h2 (fun k hk => by omega)
  | succ p ih =>
    intro H hp f h1 h2
    have ep : w32 (((p + 1 : Nat) : Int) - 1) = (p : Int) := by rw [w32_id (by omega)]; omega
    have ep2 : w32 (((p + 1 : Nat) : Int) + (-1)) = (p : Int) := by rw [w32_id (by omega)]; omega
    refine x149_12 ⟨fun q => by omega, fun _ => ⟨by rw [ep]; omega, by omega, fun q => ⟨by omega, ?_⟩, fun q => ⟨by omega, ?_⟩⟩⟩
    · rw [ep, h1 p (by omega), f 38 _ (by omega), hE] at q
      rw [zi1 (by omega), f 38 _ (by omega), hE]
      exact fin (p + 1) H hp f h1 h2 (fun k hk => by
        have := zsrt_get (i := k) (j := p) hS (by omega) (by omega)
        omega)
    · rw [ep, h1 p (by omega), f 38 _ (by omega), hE] at q
      rw [ep, ep2, h1 p (by omega)]
      refine ih _ (by omega) (fun a j q => by rw [zq_ne (fun z => q z.1)]; exact f a j q) (fun k hk => by rw [zq_ne (by omega)]; exact h1 k (by omega)) (fun k k1 k2 => ?_)
      by_cases z : k = p
      · subst z; rw [zq_eq]; exact ⟨rfl, by omega⟩
      · rw [zq_ne (by omega)]; exact h2 k (by omega) k2
theorem c149l {H0 : zHt} {l : List (Nat × Nat)} {K : zHt → Prop} (h9 : l.length ≤ 9) (hL : zLst H0 36 3 37 38 l) (hK : ∀ H', zfst H0 H' → (∀ k : Nat, k < l.length → H' 39 k = (((zshp l).getD k 0 : Nat) : Int)) → K H') : ∀ (suf pre : List (Nat × Nat)) (H : zHt), l = pre ++ suf → zfst H0 H → (∀ k : Nat, k < pre.length → H 39 k = (((zshp pre).getD k 0 : Nat) : Int)) → zgo w d 149 2 [zR 36, zI pre.length, zJ] [] H (zQV K)
  | [], pre, H, e, f, h => by
    rw [List.append_nil] at e
    subst e
    exact x149_2 ⟨fun _ => hK H f h, fun q => by rw [f 36 3 (by omega), hL.1] at q; omega⟩
  | q :: suf, pre, H, e, f, h => by
    have hp : pre.length < l.length := by rw [e, List.length_append, List.length_cons]; omega
    have hq : H0 38 (pre.length : Int) = q.2 := (zLst_at (e ▸ hL)).2
    refine x149_2 ⟨fun z => by rw [f 36 3 (by omega), hL.1] at z; omega, fun _ => ?_⟩
    refine c149i (H0 := H0) (S := zshp pre) (e := q.2) zshp_srt zshp_len (by omega) hq (fun H' f' h' => ?_) pre.length H (Nat.le_refl _) f h (fun k k1 k2 => by omega)
    have := c149l h9 hL hK suf (pre ++ [q]) H' (by rw [e]; simp) f' (fun k hk => by rw [zshp_add]; exact h' k (by rw [List.length_append] at hk; exact hk))
    rw [List.length_append] at this
    exact this
theorem zten_at {k : Nat} (h : k < 10) : zH0 w.2 1 (k : Int) = ((zten.getD k 0 : Nat) : Int) := by
  obtain rfl | rfl | rfl | rfl | rfl | rfl | rfl | rfl | rfl | rfl : k = 0 ∨ k = 1 ∨ k = 2 ∨ k = 3 ∨ k = 4 ∨ k = 5 ∨ k = 6 ∨ k = 7 ∨ k = 8 ∨ k = 9 := by omega
  all_goals rfl
theorem c148l {len : Nat} {K : Int → zHt → Prop} (hl : H 36 3 = (len : Int)) (h9 : len ≤ 9) : ∀ (S : List Nat) (k r : Nat), k + S.length = len → (∀ j : Nat, j < S.length → H 39 ((k + j : Nat) : Int) = ((S.getD j 0 : Nat) : Int)) → (∀ e ∈ S, e ≤ 100) → 1 ≤ r → r * zPw (zten.drop k) S ≤ 999999999 → K ((r * zPw (zten.drop k) S : Nat) : Int) H → zgo w (d + 1) 148 14 [zR 36, zJ, zL r, zJ, zI k] [] H (zQI K)
  | [], k, r, hk, _, _, _, hb, h => by
    have e : zPw (zten.drop k) [] = 1 := by cases zten.drop k <;> rfl
    rw [e, Nat.mul_one] at hb h
    have hk : k = len := hk
    refine x148_14 ⟨fun _ => ?_, fun q => by omega⟩
    rw [w32_id (by omega)]; exact h
  | e :: S, k, r, hk, hc, he, hr, hb, h => by
    have hk : k + (S.length + 1) = len := hk
    have hd : zten.drop k = zten.getD k 0 :: zten.drop (k + 1) := by
      have hk10 : k < zten.length := by show k < 10; omega
      rw [List.drop_eq_getElem_cons hk10, List.getD_eq_getElem?_getD, List.getElem?_eq_getElem hk10]; rfl
    have hp : 1 ≤ zten.getD k 0 := by
      have hk10 : k < zten.length := by show k < 10; omega
      rw [List.getD_eq_getElem?_getD, List.getElem?_eq_getElem hk10]
      have := (zten_pr _ (List.getElem_mem hk10)).1
      show 1 ≤ zten[k]
      omega
    have h39 : H 39 (k : Int) = (e : Int) := hc 0 (Nat.succ_pos _)
    have he1 := he e List.mem_cons_self
    rw [hd] at hb h
    have hb : r * (zten.getD k 0 ^ e * zPw (zten.drop (k + 1)) S) ≤ 999999999 := hb
    have h : K ((r * (zten.getD k 0 ^ e * zPw (zten.drop (k + 1)) S) : Nat) : Int) H := h
    rw [← Nat.mul_assoc] at hb h
    have hz : 1 ≤ zPw (zten.drop (k + 1)) S := zPw_pos (fun p hp => by have := (zten_pr p (List.mem_of_mem_drop hp)).1; omega)
    have hre : r * zten.getD k 0 ^ e ≤ 999999999 := Nat.le_trans (Nat.le_mul_of_pos_right _ hz) hb
    have hpe : zten.getD k 0 ^ e ≤ 999999999 := Nat.le_trans (Nat.le_mul_of_pos_left _ hr) hre
    have hp1 : 1 ≤ zten.getD k 0 ^ e := Nat.pow_pos hp
    refine x148_14 ⟨fun q => by omega, fun _ => ⟨by omega, by omega, ?_⟩⟩
    rw [zten_at (by omega), h39, c55 hp (by omega) (by omega)]
    rw [← Int.natCast_mul, w64_id (by omega), zi1 (by omega)]
    refine c148l hl h9 S (k + 1) _ (by omega) (fun j hj => ?_) (fun x hx => he x (List.mem_cons_of_mem _ hx)) (Nat.mul_pos hr hp1) hb h
    have := hc (j + 1) (by rw [List.length_cons]; omega)
    rw [show k + 1 + j = k + (j + 1) by omega]; exact this
theorem zexp_bd {n : Nat} {l : List (Nat × Nat)} {q : Nat × Nat} (hn : n ≤ 999999999) (hG : zGood n l) (hq : q ∈ l) : 1 ≤ q.2 ∧ q.2 ≤ 29 := by
  obtain ⟨h1, h2, h3, -⟩ := zGood_pw hn hG hq
  refine ⟨h2, ?_⟩
  rcases Nat.lt_or_ge 29 q.2 with z | z
  · have : 2 ^ 30 ≤ q.1 ^ q.2 := zppw h1 (by omega) z
    omega
  · exact z
theorem c148 {n : Nat} (hMR : zMR) (h1 : 1 ≤ n) (hn : n ≤ 999999999) : ∃ H', (∀ a j : Int, a ≠ 37 → a ≠ 38 → a ≠ 39 → ¬ (a = 36 ∧ j = 3) → H' a j = H a j) ∧ ∀ K : Int → zHt → Prop, zclI w (d + 3) 148 [zR 36, zI n] H K = K ((zPw zten (zshp (zfac n)) : Nat) : Int) H' := by
  obtain ⟨H1, ⟨f1, hG, hL⟩, e1⟩ := c45 (w := w) (d := d) (n := n) (H := H) hMR h1 hn
  have h9 := zGood_nine hG (by omega)
  obtain ⟨H2, ⟨f2, t2⟩, e2⟩ := zclV_ex (w := w) (d := d + 2) (t := 149) (as := [zR 36]) (H := H1) (P := fun H' => zfst H1 H' ∧ ∀ k : Nat, k < (zfac n).length → H' 39 k = (((zshp (zfac n)).getD k 0 : Nat) : Int)) (x149_0 (c149l (H0 := H1) h9 hL (fun H' f t => ⟨f, t⟩) (zfac n) [] H1 rfl (fun _ _ _ => rfl) (fun k hk => absurd hk (Nat.not_lt_zero k))))
  refine ⟨H2, fun a j q1 q2 q3 q4 => by rw [f2 a j q3, f1 a j q1 q2 q4], fun K => zclI_eq fun K h => x148_0 ?_⟩
  rw [e1, e2]
  refine c148l (len := (zfac n).length) (by rw [f2 36 3 (by omega)]; exact hL.1) h9 (zshp (zfac n)) 0 1 (by rw [zshp_len]; omega) (fun j hj => by rw [Nat.zero_add]; exact t2 j (by rw [zshp_len] at hj; exact hj)) (fun e he => ?_) (Nat.le_refl 1) ?_ ?_
  · obtain ⟨q, hq, rfl⟩ := zshp_mem he
    have := zexp_bd hn hG hq; omega
  · have := zshp_bd hn hG
    show 1 * zPw zten _ ≤ _
    omega
  · show K ((1 * zPw zten (zshp (zfac n)) : Nat) : Int) H2
    rw [Nat.one_mul]; exact h
theorem zM32_lt : ∀ (n : Nat) {S : List Nat}, S.length = n → (∀ x ∈ S, x ≤ 31) → zM32 S < 32 ^ n := by
  intro n
  induction n with
  | zero =>
    intro S hl _
    have : S = [] := List.length_eq_zero_iff.mp hl
    subst this
    decide
  | succ n ih =>
    intro S hl h
    rcases List.eq_nil_or_concat S with z | ⟨T, e, z⟩
    · subst z; cases hl
    · rw [List.concat_eq_append] at z
      subst z
      rw [zM32_add, Nat.pow_succ]
      have h1 := ih (S := T) (by rw [List.length_append] at hl; simp at hl; omega) (fun x hx => h x (by simp [hx]))
      have h2 := h e (by simp)
      omega
theorem c258i {l : List (Nat × Nat)} {k : Nat} {K : Int → zHt → Prop} (h9 : l.length ≤ 9) (hk : k ≤ 28) (hL : zLst H 81 8 85 86 l) (out : ∀ X : List Nat, (∀ x ∈ X, x ≤ 31) → X.length + (zdnl l k).length ≤ 9 → K ((zM32 (X ++ zdnl l k) : Nat) : Int) H → zgo w (d + 1) 258 11 [zR 81, zJ, zL ((zM32 X : Nat) : Int), zJ, zI k, zJ] [] H (zQL K)) : ∀ (suf pre : List (Nat × Nat)) (X : List Nat), l = pre ++ suf → (∀ x ∈ X, x ≤ 31) → X.length + ((suf.map Prod.snd).filter (fun e => e = k + 1)).length + (zdnl l k).length ≤ 9 → K ((zM32 (X ++ ((suf.map Prod.snd).filter (fun e => e = k + 1) ++ zdnl l k)) : Nat) : Int) H → zgo w (d + 1) 258 19 [zR 81, zJ, zL ((zM32 X : Nat) : Int), zJ, zI ((k + 1 : Nat) : Int), zI pre.length] [] H (zQL K)
  | [], pre, X, e, hX, hb, h => by
    rw [List.append_nil] at e
    subst e
    refine x258_19 ⟨fun _ => ?_, fun q => by rw [hL.1] at q; omega⟩
    rw [show w32 (((k + 1 : Nat) : Int) + (-1)) = (k : Int) by rw [w32_id (by omega)]; omega]
    exact out X hX (by simpa using hb) h
  | q :: suf, pre, X, e, hX, hb, h => by
    have hp : pre.length < l.length := by rw [e, List.length_append, List.length_cons]; omega
    have hq : H 86 (pre.length : Int) = q.2 := (zLst_at (e ▸ hL)).2
    refine x258_19 ⟨fun z => by rw [hL.1] at z; omega, fun _ => ⟨by omega, fun z => ?_, fun z => ?_⟩⟩
    · rw [hq] at z
      have hne : ¬ q.2 = k + 1 := by omega
      rw [List.map_cons, List.filter_cons_of_neg (by simp [hne])] at hb h
      rw [zi1 (by omega)]
      have := c258i h9 hk hL out suf (pre ++ [q]) X (by rw [e]; simp) hX hb h
      rw [List.length_append] at this
      exact this
    · rw [hq] at z
      have he : q.2 = k + 1 := by omega
      rw [List.map_cons, List.filter_cons_of_pos (by simp [he])] at hb h
      rw [List.length_cons] at hb
      have h1 := zM32_lt X.length rfl hX
      have h2 : 32 ^ X.length ≤ 32 ^ 8 := Nat.pow_le_pow_right (by decide) (by omega)
      have h3 : (32 : Nat) ^ 8 = 1099511627776 := by decide
      rw [zi1 (by omega), w64_id (x := 32 * ((zM32 X : Nat) : Int)) (by omega), w64_id (by omega)]
      have e1 : 32 * ((zM32 X : Nat) : Int) + ((k + 1 : Nat) : Int) = ((zM32 (X ++ [k + 1]) : Nat) : Int) := by rw [zM32_add]; omega
      rw [e1]
      have := c258i h9 hk hL out suf (pre ++ [q]) (X ++ [k + 1]) (by rw [e]; simp) (fun x hx => by
        rcases List.mem_append.mp hx with y | y
        · exact hX x y
        · have := List.mem_singleton.mp y; omega) (by rw [List.length_append]; simp only [List.length_cons, List.length_nil]; omega) (by rw [List.append_assoc]; rw [he] at h; exact h)
      rw [List.length_append] at this
      exact this
theorem c258l {l : List (Nat × Nat)} {K : Int → zHt → Prop} (h9 : l.length ≤ 9) (hL : zLst H 81 8 85 86 l) : ∀ (k : Nat) (X : List Nat), k ≤ 29 → (∀ x ∈ X, x ≤ 31) → X.length + (zdnl l k).length ≤ 9 → K ((zM32 (X ++ zdnl l k) : Nat) : Int) H → zgo w (d + 1) 258 11 [zR 81, zJ, zL ((zM32 X : Nat) : Int), zJ, zI k, zJ] [] H (zQL K)
  | 0, X, hk, hX, hb, h => x258_11 ⟨fun _ => by
      have h : K ((zM32 (X ++ []) : Nat) : Int) H := h
      rw [List.append_nil] at h; exact h, fun q => absurd q (by decide)⟩
  | k + 1, X, hk, hX, hb, h => x258_11 ⟨fun q => by omega, fun _ => c258i h9 (by omega) hL (fun X' h1 h2 h3 => c258l h9 hL k X' (by omega) h1 h2 h3) l [] X rfl hX (by
      have hb : X.length + ((l.map Prod.snd).filter (fun e => e = k + 1) ++ zdnl l k).length ≤ 9 := hb
      rw [List.length_append] at hb; omega) h⟩
theorem c258 {n : Nat} (h1 : 1 ≤ n) (hn : n ≤ 999999999) : ∃ H', zfm H H' ∧ ∀ K : Int → zHt → Prop, zclL w (d + 1) 258 [zR 81, zI n] H K = K ((zM32 (zshp (zfac n)) : Nat) : Int) H' := by
  obtain ⟨H1, ⟨f1, hG, hL⟩, e1⟩ := c177 (w := w) (d := d) (n := n) (H := H) h1 hn
  have h9 := zGood_nine hG (by omega)
  have hD : zdnl (zfac n) 29 = zshp (zfac n) := zdnl_shp _ (Nat.le_refl _) (fun q hq => zexp_bd hn hG hq)
  refine ⟨H1, f1, fun K => zclL_eq fun K h => x258_0 ?_⟩
  rw [e1]
  refine c258l h9 hL 29 [] (Nat.le_refl _) (fun x hx => by cases hx) (by rw [hD, zshp_len]; show 0 + _ ≤ 9; omega) ?_
  rw [hD]; exact h
theorem zshp_eq {n m : Nat} (hn : n ≤ 999999999) (hm : m ≤ 999999999) (gn : zGood n (zfac n)) (gm : zGood m (zfac m)) : (((zPw zten (zshp (zfac n)) : Nat) : Int) = ((zPw zten (zshp (zfac m)) : Nat) : Int) ↔ zshp (zfac n) = zshp (zfac m)) ∧ (((zM32 (zshp (zfac n)) : Nat) : Int) = ((zM32 (zshp (zfac m)) : Nat) : Int) ↔ zshp (zfac n) = zshp (zfac m)) := by
  have bn : ∀ e ∈ zshp (zfac n), 1 ≤ e ∧ e ≤ 31 := fun e he => by
    obtain ⟨q, hq, rfl⟩ := zshp_mem he
    have := zexp_bd hn gn hq; omega
  have bm : ∀ e ∈ zshp (zfac m), 1 ≤ e ∧ e ≤ 31 := fun e he => by
    obtain ⟨q, hq, rfl⟩ := zshp_mem he
    have := zexp_bd hm gm hq; omega
  have ln := zGood_nine gn (by omega)
  have lm := zGood_nine gm (by omega)
  refine ⟨⟨fun h => zPw_inj (fun e he => (bn e he).1) (fun e he => (bm e he).1) (by rw [zshp_len]; omega) (by rw [zshp_len]; omega) (by omega), fun h => by rw [h]⟩, ⟨fun h => zM32_inj _ (Nat.le_refl _) bn bm (by omega), fun h => by rw [h]⟩⟩
theorem zfac_good (w : zWt) {n : Nat} (h1 : 1 ≤ n) (hn : n ≤ 999999999) : zGood n (zfac n) := by
  obtain ⟨_, ⟨_, hG, _⟩, _⟩ := c177 (w := w) (H := fun _ _ => 0) (d := 0) (n := n) h1 hn
  exact hG
theorem zcf_148 {H' : zHt} (f : ∀ a j : Int, a ≠ 37 → a ≠ 38 → a ≠ 39 → ¬ (a = 36 ∧ j = 3) → H' a j = H a j) : zcf H H' := ⟨zRk_of (fun a j q => f a j (fun z => by subst z; cases q) (fun z => by subst z; cases q) (fun z => by subst z; cases q) (fun z => by obtain ⟨rfl, rfl⟩ := z; cases q)), f 81 0 (by decide) (by decide) (by decide) (by decide)⟩
noncomputable def zsmA (a b : Int) : Int × Int := if (1 ≤ a ∧ a ≤ 999999999) ∧ 1 ≤ b ∧ b ≤ 999999999 then (0, if zshp (zfac a.toNat) = zshp (zfac b.toNat) then 1 else 0) else (1, -1)
-- same
theorem l1941 (hw : w.1 ≤ 3072) (hMR : zMR) : zLaw w (zKept zAllR) 1941 := fun H i hi hR K nx => x0_1941 (d := 1999) (by
  refine ⟨zidx hw hi (by decide) (by decide), zidx hw hi (by decide) (by decide), ?_⟩
  generalize zH0 w.2 0 (w32 ((i : Int) + 1)) = a
  generalize zH0 w.2 0 (w32 ((i : Int) + 2)) = b
  refine zcaseI (A := fun _ => zsmA a b) (fun _ _ _ => rfl) hR (fun hD hW => x150_0 (d := 1998) ?_) (fun H1 hD => x259_0 (d := 1998) ?_) (fun x y H' hk e => nx H' hk)
  · unfold zsmA
    rw [c43]
    by_cases ha : 1 ≤ a ∧ a ≤ 999999999
    · rw [if_pos ha]
      refine ⟨fun q => absurd q (by decide), fun _ => ?_⟩
      rw [c43]
      by_cases hb : 1 ≤ b ∧ b ≤ 999999999
      · rw [if_pos hb, if_pos ⟨ha, hb⟩]
        refine ⟨fun _ => ?_, fun q => absurd q (by decide)⟩
        obtain ⟨n, rfl⟩ : ∃ n : Nat, a = n := ⟨a.toNat, by omega⟩
        obtain ⟨m, rfl⟩ : ∃ n : Nat, b = n := ⟨b.toNat, by omega⟩
        obtain ⟨H1, f1, e1⟩ := c148 (w := w) (d := 1995) (H := H) (n := n) hMR (by omega) (by omega)
        obtain ⟨H2, f2, e2⟩ := c148 (w := w) (d := 1995) (H := H1) (n := m) hMR (by omega) (by omega)
        have eq := (zshp_eq (by omega) (by omega) (zfac_good w (n := n) (by omega) (by omega)) (zfac_good w (n := m) (by omega) (by omega))).1
        rw [e1, e2]
        refine ⟨fun q => zPC_d (zcf_tr (zcf_148 f1) (zcf_148 f2)) ?_, fun q => zPC_d (zcf_tr (zcf_148 f1) (zcf_148 f2)) ?_⟩
        · show (0, if zshp (zfac n) = zshp (zfac m) then (1 : Int) else 0) = _
          rw [if_neg (fun z => q (eq.mpr z))]
        · show (0, if zshp (zfac n) = zshp (zfac m) then (1 : Int) else 0) = _
          rw [if_pos (eq.mp q)]
      · rw [if_neg hb, if_neg (fun z => hb z.2)]
        exact ⟨fun q => absurd rfl q, fun _ => zPC_r zcf_rfl rfl⟩
    · rw [if_neg ha, if_neg (fun z => ha z.1)]
      exact ⟨fun _ => zPC_r zcf_rfl rfl, fun q => absurd rfl q⟩
  · unfold zsmA
    rw [c176]
    by_cases ha : 1 ≤ a ∧ a ≤ 999999999
    · rw [if_pos ha]
      refine ⟨fun q => absurd q (by decide), fun _ => ?_⟩
      rw [c176]
      by_cases hb : 1 ≤ b ∧ b ≤ 999999999
      · rw [if_pos hb, if_pos ⟨ha, hb⟩, c174_0]
        refine ⟨fun q => absurd q (by decide), fun _ => ⟨fun q => absurd q (by decide), fun _ => ?_⟩⟩
        obtain ⟨n, rfl⟩ : ∃ n : Nat, a = n := ⟨a.toNat, by omega⟩
        obtain ⟨m, rfl⟩ : ∃ n : Nat, b = n := ⟨b.toNat, by omega⟩
        obtain ⟨H2, f2, e2⟩ := c258 (w := w) (d := 1997) (H := zst H1 0) (n := n) (by omega) (by omega)
        obtain ⟨H3, f3, e3⟩ := c258 (w := w) (d := 1997) (H := H2) (n := m) (by omega) (by omega)
        have eq := (zshp_eq (by omega) (by omega) (zfac_good w (n := n) (by omega) (by omega)) (zfac_good w (n := m) (by omega) (by omega))).2
        have fm : zmf H1 H3 := zmf_fm (zmf_fm (zst_f zmf_rfl) f2) f3
        have s3 : H3 81 0 = 0 := by rw [f3 81 0 (by decide) (by decide) (by decide), f2 81 0 (by decide) (by decide) (by decide)]; exact zst_0
        rw [e2, e3]
        refine ⟨fun q => zPM_0 fm s3 ?_, fun q => zPM_0 fm s3 ?_⟩
        · show (0, if zshp (zfac n) = zshp (zfac m) then (1 : Int) else 0) = _
          rw [if_neg (fun z => q (eq.mpr z))]
        · show (0, if zshp (zfac n) = zshp (zfac m) then (1 : Int) else 0) = _
          rw [if_pos (eq.mp q)]
      · rw [if_neg hb, if_neg (fun z => hb z.2), c174_1]
        exact ⟨fun _ => ⟨fun _ => zPM_n zmf_rfl rfl, fun q => absurd rfl q⟩, fun q => absurd rfl q⟩
    · rw [if_neg ha, if_neg (fun z => ha z.1), c174_1]
      exact ⟨fun _ => ⟨fun _ => zPM_n zmf_rfl rfl, fun q => absurd rfl q⟩, fun q => absurd rfl q⟩)
end Z68
