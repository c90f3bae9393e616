/-! acts: desks as values, kept and taken back -/
def zOkD (D : List Int × Int × Int × Int) : Prop := D.1.length ≤ 6 ∧ (∀ k : Nat, k < D.1.length → 1 ≤ D.1.getD k 0 ∧ D.1.getD k 0 ≤ 999999999) ∧ (1 ≤ D.2.1 ∧ D.2.1 ≤ 999999999) ∧ (1 ≤ D.2.2.1 ∧ D.2.2.1 ≤ 100) ∧ 0 ≤ D.2.2.2 ∧ D.2.2.2 ≤ 3
def zDeC (H : zHt) (o : Int) (D : List Int × Int × Int × Int) : Prop := H o 1 = D.1.length ∧ H o 2 = D.2.1 ∧ H o 3 = D.2.2.1 ∧ H o 4 = D.2.2.2 ∧ zArr H (o + 1) D.1
/-! acts: keeping one, by the class and by the model -/
section Z57
variable {w : zWt} {d : Nat} {H : zHt}
theorem zisD_b {o : Int} (h : zisD o) : (o = 40 ∨ o = 42 ∨ (53 ≤ o ∧ o ≤ 67 ∧ o % 2 = 1)) := by unfold zisD at h; omega
/-- a desk copied -/
theorem c37 {o p : Int} (ho : zisD o) (hp : zisD p) (hne : o ≠ p) : ∃ H', ((∀ a j : Int, a ≠ o → a ≠ o + 1 → H' a j = H a j) ∧ H' o 1 = H p 1 ∧ H' o 2 = H p 2 ∧ H' o 3 = H p 3 ∧ H' o 4 = H p 4 ∧ ∀ k : Nat, k < 6 → H' (o + 1) k = H (p + 1) k) ∧ ∀ K : zHt → Prop, zclV w d 37 [zR o, zR p] H K = K H' := by
  have bo := zisD_b ho
  have bp := zisD_b hp
  have L : ∀ (c k : Nat) (H1 : zHt), k + c = 6 → (∀ a j : Int, a ≠ o + 1 → H1 a j = H a j) → (∀ i : Nat, i < k → H1 (o + 1) i = H (p + 1) i) → zgo w d 37 2 [zR o, zR p, zI k] [] H1 (zQV fun H' => (∀ a j : Int, a ≠ o → a ≠ o + 1 → H' a j = H a j) ∧ H' o 1 = H p 1 ∧ H' o 2 = H p 2 ∧ H' o 3 = H p 3 ∧ H' o 4 = H p 4 ∧ ∀ k : Nat, k < 6 → H' (o + 1) k = H (p + 1) k) := by
    intro c
    induction c with
    | zero =>
      intro k H1 hk hF hT
      refine x37_2 ho hp ⟨fun _ v hv => ?_, fun q => by omega⟩
      subst hv
      refine ⟨fun a j h1 h2 => ?_, ?_, ?_, ?_, ?_, fun i hi => ?_⟩
      · rw [zq_ne (by omega), zq_ne (by omega), zq_ne (by omega), zq_ne (by omega)]; exact hF a j h2
      · rw [zq_ne (by omega), zq_ne (by omega), zq_ne (by omega), zq_eq]; exact hF p 1 (by omega)
      · rw [zq_ne (by omega), zq_ne (by omega), zq_eq, zq_ne (by omega)]; exact hF p 2 (by omega)
      · rw [zq_ne (by omega), zq_eq, zq_ne (by omega), zq_ne (by omega)]; exact hF p 3 (by omega)
      · rw [zq_eq, zq_ne (by omega), zq_ne (by omega), zq_ne (by omega)]; exact hF p 4 (by omega)
      · rw [zq_ne (by omega), zq_ne (by omega), zq_ne (by omega), zq_ne (by omega)]; exact hT i (by omega)
    | succ c ih =>
      intro k H1 hk hF hT
      refine x37_2 ho hp ⟨fun q => by omega, fun _ => ⟨by omega, ?_⟩⟩
      rw [zi1 (by omega)]
      refine ih (k + 1) _ (by omega) (fun a j q => by rw [zq_ne (by omega)]; exact hF a j q) (fun i hi => ?_)
      by_cases z : i = k
      · subst z; rw [zq_eq]; exact hF (p + 1) i (by omega)
      · rw [zq_ne (by omega)]; exact hT i (by omega)
  exact zclV_ex (x37_0 ho hp (L 6 0 H (by omega) (fun _ _ _ => rfl) (fun i hi => by omega)))
theorem zDeC_cp {H1 : zHt} {o p : Int} {D : List Int × Int × Int × Int} (h6 : D.1.length ≤ 6) (h : H1 o 1 = H p 1 ∧ H1 o 2 = H p 2 ∧ H1 o 3 = H p 3 ∧ H1 o 4 = H p 4 ∧ ∀ k : Nat, k < 6 → H1 (o + 1) k = H (p + 1) k) (hc : zDeC H p D) : zDeC H1 o D := by
  obtain ⟨c1, c2, c3, c4, c5⟩ := hc
  obtain ⟨a1, a2, a3, a4, a5⟩ := h
  exact ⟨by rw [a1, c1], by rw [a2, c2], by rw [a3, c3], by rw [a4, c4], fun k hk => by rw [a5 k (by omega)]; exact c5 k hk⟩
theorem zDeC_k {H1 : zHt} {o : Int} {D : List Int × Int × Int × Int} (h : ∀ j, H1 o j = H o j) (h2 : ∀ j, H1 (o + 1) j = H (o + 1) j) (hc : zDeC H o D) : zDeC H1 o D := by
  unfold zDeC zArr at hc ⊢
  simp only [h, h2]
  exact hc
/-- the rows as told forgotten -/
theorem c38 : ∃ H', ((∀ a j : Int, ¬ ((69 ≤ a ∧ a ≤ 79) ∧ j = 4) → H' a j = H a j) ∧ ∀ r : Nat, r ≤ 5 → H' (69 + 2 * r) 4 = 0) ∧ ∀ K : zHt → Prop, zclV w d 38 [zR 32] H K = K H' := by
  have L : ∀ (c k : Nat) (H1 : zHt), k + c = 6 → (∀ a j : Int, ¬ ((69 ≤ a ∧ a ≤ 79) ∧ j = 4) → H1 a j = H a j) → (∀ r : Nat, r < k → H1 (69 + 2 * r) 4 = 0) → zgo w d 38 2 [zR 32, zI k] [] H1 (zQV fun H' => (∀ a j : Int, ¬ ((69 ≤ a ∧ a ≤ 79) ∧ j = 4) → H' a j = H a j) ∧ ∀ r : Nat, r ≤ 5 → H' (69 + 2 * r) 4 = 0) := by
    intro c
    induction c with
    | zero =>
      intro k H1 hk hF hT
      exact x38_2 ⟨fun _ => ⟨hF, fun r hr => hT r (by omega)⟩, fun q => by omega⟩
    | succ c ih =>
      intro k H1 hk hF hT
      refine x38_2 ⟨fun q => by omega, fun _ => ⟨by omega, ?_⟩⟩
      rw [zi1 (by omega)]
      refine ih (k + 1) _ (by omega) (fun a j q => by rw [zq_ne (by omega)]; exact hF a j q) (fun r hr => ?_)
      by_cases z : r = k
      · subst z; rw [zq_eq]
      · rw [zq_ne (by omega)]; exact hT r (by omega)
  exact zclV_ex (x38_0 (L 6 0 H (by omega) (fun _ _ _ => rfl) (fun r hr => by omega)))
end Z57
/-! the case feed -/
/-- the tape with T behind its first n, in A, its length at P J -/
def zfdt (A P J : Int) (f : Int → Int) (H0 : zHt) (n : Nat) (T : List Int) (H : zHt) : Prop := H P J = ((n + T.length : Nat) : Int) ∧ (∀ k : Nat, k < n → H A k = H0 A k) ∧ (∀ k : Nat, k < T.length → H A ((n + k : Nat) : Int) = f (T.getD k 0)) ∧ ∀ a j : Int, a ≠ A → ¬ (a = P ∧ j = J) → H a j = H0 a j
def zfb (x : Int) : List Int := [zand (zushr x ((24 : Nat) : Int)) 255, zand (zushr x ((16 : Nat) : Int)) 255, zand (zushr x ((8 : Nat) : Int)) 255, zand (zushr x ((0 : Nat) : Int)) 255]
theorem zfd_add {A P J x b : Int} {f : Int → Int} {H0 H : zHt} {n : Nat} {T : List Int} (hA : A ≠ P) (h : zfdt A P J f H0 n T H) (hn : n + T.length < 400) (hb : x = f b) : zfdt A P J f H0 n (T ++ [b]) (zup (zup H A (H P J) x) P J (w32 (H P J + 1))) := by
  obtain ⟨h1, h2, h3, h4⟩ := h
  have hl : (T ++ [b]).length = T.length + 1 := by rw [List.length_append]; rfl
  refine ⟨?_, fun k hk => ?_, fun k hk => ?_, fun a j q1 q2 => ?_⟩
  · rw [zq_eq, h1, w32_id (by omega), hl]; omega
  · rw [zq_ne (fun z => hA z.1), zq_ne (by rw [h1]; omega)]; exact h2 k hk
  · rw [zq_ne (fun z => hA z.1), h1]
    rw [hl] at hk
    by_cases z : k = T.length
    · subst z
      rw [zq_eq, hb, List.getD_eq_getElem?_getD, List.getElem?_append_right (Nat.le_refl _), Nat.sub_self]; rfl
    · rw [zq_ne (by omega), h3 k (by omega), List.getD_eq_getElem?_getD, List.getD_eq_getElem?_getD, List.getElem?_append_left (by omega)]
  · rw [zq_ne q2, zq_ne (fun z => q1 z.1)]; exact h4 a j q1 q2
theorem zfd_st {A P J : Int} {f : Int → Int} {H : zHt} {n : Nat} (h : H P J = (n : Int)) : zfdt A P J f H n [] H := ⟨by rw [h]; rfl, fun _ _ => rfl, fun k hk => absurd hk (Nat.not_lt_zero k), fun _ _ _ _ => rfl⟩
section Z62
variable {w : zWt} {d : Nat} {H : zHt}
theorem zfd_4 {A P J x x1 x2 x3 x4 : Int} {f : Int → Int} {H0 : zHt} {n : Nat} {T : List Int} (hA : A ≠ P) (h : zfdt A P J f H0 n T H) (hn : n + T.length + 4 ≤ 400) (e1 : x1 = f (zand (zushr x ((24 : Nat) : Int)) 255)) (e2 : x2 = f (zand (zushr x ((16 : Nat) : Int)) 255)) (e3 : x3 = f (zand (zushr x ((8 : Nat) : Int)) 255)) (e4 : x4 = f (zand (zushr x ((0 : Nat) : Int)) 255)) : ∃ H1 H2 H3, H1 = zup (zup H A (H P J) x1) P J (w32 (H P J + 1)) ∧ H2 = zup (zup H1 A (H1 P J) x2) P J (w32 (H1 P J + 1)) ∧ H3 = zup (zup H2 A (H2 P J) x3) P J (w32 (H2 P J + 1)) ∧ zfdt A P J f H0 n (T ++ zfb x) (zup (zup H3 A (H3 P J) x4) P J (w32 (H3 P J + 1))) ∧ (0 ≤ H P J ∧ H P J < 400) ∧ (0 ≤ H1 P J ∧ H1 P J < 400) ∧ (0 ≤ H2 P J ∧ H2 P J < 400) ∧ (0 ≤ H3 P J ∧ H3 P J < 400) := by
  have h1 := zfd_add hA h (by omega) e1
  have h2 := zfd_add hA h1 (by simp only [List.length_append, List.length_cons, List.length_nil]; omega) e2
  have h3 := zfd_add hA h2 (by simp only [List.length_append, List.length_cons, List.length_nil]; omega) e3
  have h4 := zfd_add hA h3 (by simp only [List.length_append, List.length_cons, List.length_nil]; omega) e4
  refine ⟨_, _, _, rfl, rfl, rfl, ?_, ?_, ?_, ?_, ?_⟩
  · simp only [List.append_assoc, List.cons_append, List.nil_append] at h4
    exact h4
  · rw [h.1]; omega
  · rw [h1.1]; simp only [List.length_append, List.length_cons, List.length_nil]; omega
  · rw [h2.1]; simp only [List.length_append, List.length_cons, List.length_nil]; omega
  · rw [h3.1]; simp only [List.length_append, List.length_cons, List.length_nil]; omega
theorem zst16 : w32 (24 + (-8)) = 16 := (w32_id (by omega)).trans (by decide)
theorem zst8 : w32 (16 + (-8)) = 8 := (w32_id (by omega)).trans (by decide)
theorem zst00 : w32 (8 + (-8)) = 0 := (w32_id (by omega)).trans (by decide)
theorem zstm : w32 (0 + (-8)) = -8 := (w32_id (by omega)).trans (by decide)
theorem c11 {H0 : zHt} {n : Nat} {T : List Int} {x : Int} (h : zfdt 34 33 8 id H0 n T H) (hn : n + T.length + 4 ≤ 400) : ∃ H', zfdt 34 33 8 id H0 n (T ++ zfb x) H' ∧ ∀ K : zHt → Prop, zclV w d 11 [zR 33, zI x] H K = K H' := by
  obtain ⟨H1, H2, H3, g1, g2, g3, g, b0, b1, b2, b3⟩ := zfd_4 (x := x) (by decide) h hn rfl rfl rfl rfl
  refine ⟨_, g, fun K => zclV_eq fun K k => x11_0 (x11_3 ⟨fun q => absurd q (by decide), fun _ => ⟨fun q => absurd q (by omega), fun _ => ⟨b0, ?_⟩⟩⟩)⟩
  rw [show zup (zup H 34 (H 33 8) (zand (zushr x 24) 255)) 33 8 (w32 (H 33 8 + 1)) = H1 from g1.symm, zst16]
  refine x11_3 ⟨fun q => absurd q (by decide), fun _ => ⟨fun q => absurd q (by omega), fun _ => ⟨b1, ?_⟩⟩⟩
  rw [show zup (zup H1 34 (H1 33 8) (zand (zushr x 16) 255)) 33 8 (w32 (H1 33 8 + 1)) = H2 from g2.symm, zst8]
  refine x11_3 ⟨fun q => absurd q (by decide), fun _ => ⟨fun q => absurd q (by omega), fun _ => ⟨b2, ?_⟩⟩⟩
  rw [show zup (zup H2 34 (H2 33 8) (zand (zushr x 8) 255)) 33 8 (w32 (H2 33 8 + 1)) = H3 from g3.symm, zst00]
  refine x11_3 ⟨fun q => absurd q (by decide), fun _ => ⟨fun q => absurd q (by omega), fun _ => ⟨b3, ?_⟩⟩⟩
  rw [zstm]
  exact x11_3 ⟨fun _ => k, fun q => absurd q (by decide)⟩
end Z62
/-! texts: what is written, and how long it is -/
section Z63
variable {w : zWt} {d : Nat} {H : zHt}
theorem zw32n {a n : Nat} (h : a ≤ n) (hn : n ≤ 999999999) : w32 (a : Int) = a := w32_id (by omega)
end Z63
/-! how long the text of a number's primes is -/
/-! the case print -/
theorem zppw {a p k e : Nat} (h : a ≤ p) (h1 : 1 ≤ p) (hk : k ≤ e) : a ^ k ≤ p ^ e := Nat.le_trans (Nat.pow_le_pow_left h k) (Nat.pow_le_pow_right h1 hk)
section Z64
variable {w : zWt} {d : Nat} {H : zHt}
end Z64
/-! shapes: how often, falling, and the two numbers for it -/
def zins (e : Nat) : List Nat → List Nat
  | [] => [e]
  | x :: S => if x < e then e :: x :: S else x :: zins e S
def zshp (l : List (Nat × Nat)) : List Nat := l.foldl (fun S q => zins q.2 S) []
theorem zins_len {e : Nat} : ∀ {S : List Nat}, (zins e S).length = S.length + 1
  | [] => rfl
  | x :: S => by
    unfold zins
    split
    · rfl
    · show (zins e S).length + 1 = _; rw [zins_len]; rfl
theorem zins_mem {e y : Nat} : ∀ {S : List Nat}, y ∈ zins e S ↔ y = e ∨ y ∈ S
  | [] => by unfold zins; simp
  | x :: S => by
    unfold zins
    split
    · simp
    · rw [List.mem_cons, zins_mem, List.mem_cons]
      refine ⟨fun h => ?_, fun h => ?_⟩
      · rcases h with z | z | z
        · exact Or.inr (Or.inl z)
        · exact Or.inl z
        · exact Or.inr (Or.inr z)
      · rcases h with z | z | z
        · exact Or.inr (Or.inl z)
        · exact Or.inl z
        · exact Or.inr (Or.inr z)
theorem zins_srt {e : Nat} : ∀ {S : List Nat}, S.Pairwise (· ≥ ·) → (zins e S).Pairwise (· ≥ ·)
  | [], _ => by unfold zins; simp
  | x :: S, h => by
    rw [List.pairwise_cons] at h
    unfold zins
    split
    · rw [List.pairwise_cons, List.pairwise_cons]
      refine ⟨fun y hy => ?_, h⟩
      rcases List.mem_cons.mp hy with z | z
      · subst z; omega
      · have := h.1 y z; omega
    · rw [List.pairwise_cons]
      refine ⟨fun y hy => ?_, zins_srt h.2⟩
      rcases zins_mem.mp hy with z | z
      · subst z; omega
      · exact h.1 y z
theorem zfold_P {P : List Nat → Prop} (hP : ∀ (e : Nat) (S : List Nat), P S → P (zins e S)) : ∀ {l : List (Nat × Nat)} {S : List Nat}, P S → P (l.foldl (fun S q => zins q.2 S) S)
  | [], _, h => h
  | q :: l, S, h => zfold_P hP (l := l) (hP q.2 S h)
theorem zshp_srt {l : List (Nat × Nat)} : (zshp l).Pairwise (· ≥ ·) := zfold_P (P := fun S => S.Pairwise (· ≥ ·)) (fun _ _ h => zins_srt h) List.Pairwise.nil
theorem zfold_len : ∀ {l : List (Nat × Nat)} {S : List Nat}, (l.foldl (fun S q => zins q.2 S) S).length = S.length + l.length
  | [], _ => rfl
  | q :: l, S => by
    show (l.foldl (fun S q => zins q.2 S) (zins q.2 S)).length = _
    rw [zfold_len, zins_len, List.length_cons]; omega
theorem zshp_len {l : List (Nat × Nat)} : (zshp l).length = l.length := by
  unfold zshp
  rw [zfold_len]; simp
theorem zfold_mem {y : Nat} : ∀ {l : List (Nat × Nat)} {S : List Nat}, y ∈ l.foldl (fun S q => zins q.2 S) S → y ∈ S ∨ ∃ q ∈ l, y = q.2
  | [], _, h => Or.inl h
  | q :: l, S, h => by
    rcases zfold_mem (l := l) h with z | ⟨r, hr, z⟩
    · rcases zins_mem.mp z with y1 | y1
      · exact Or.inr ⟨q, List.mem_cons_self, y1⟩
      · exact Or.inl y1
    · exact Or.inr ⟨r, List.mem_cons_of_mem _ hr, z⟩
theorem zshp_mem {y : Nat} {l : List (Nat × Nat)} (h : y ∈ zshp l) : ∃ q ∈ l, y = q.2 := by
  rcases zfold_mem (l := l) (S := []) h with z | z
  · cases z
  · exact z
/-! the class's number -/
def zPw : List Nat → List Nat → Nat
  | p :: ps, e :: S => p ^ e * zPw ps S
  | _, _ => 1
def zten : List Nat := [2, 3, 5, 7, 11, 13, 17, 19, 23, 29]
theorem zswap {p q e x R : Nat} (hp : p ≤ q) (he : x ≤ e) : p ^ e * (q ^ x * R) ≤ p ^ x * (q ^ e * R) := by
  obtain ⟨k, rfl⟩ : ∃ k, e = x + k := ⟨e - x, by omega⟩
  rw [Nat.pow_add, Nat.pow_add]
  have h : p ^ k ≤ q ^ k := Nat.pow_le_pow_left hp k
  have e1 : p ^ x * p ^ k * (q ^ x * R) = p ^ x * (q ^ x * R) * p ^ k := by rw [Nat.mul_right_comm]
  have e2 : p ^ x * (q ^ x * q ^ k * R) = p ^ x * (q ^ x * R) * q ^ k := by rw [Nat.mul_right_comm (q ^ x), ← Nat.mul_assoc]
  rw [e1, e2]
  exact Nat.mul_le_mul_left _ h
theorem zPw_front {e : Nat} {U : List Nat} : ∀ {T m : List Nat}, m.Pairwise (· ≤ ·) → T.length + 1 ≤ m.length → (∀ x ∈ T, x < e) → zPw m (e :: (T ++ U)) ≤ zPw m (T ++ e :: U)
  | [], _, _, _, _ => Nat.le_refl _
  | x :: T, [], _, hl, _ => by simp at hl
  | x :: T, [p], _, hl, _ => by simp at hl
  | x :: T, p :: q :: m, hm, hl, h => by
    rw [List.pairwise_cons] at hm
    have ih := zPw_front (e := e) (U := U) (T := T) (m := q :: m) hm.2 (by simp only [List.length_cons] at hl ⊢; omega) (fun y hy => h y (List.mem_cons_of_mem _ hy))
    have hx := h x List.mem_cons_self
    show p ^ e * (q ^ x * zPw m (T ++ U)) ≤ p ^ x * zPw (q :: m) (T ++ e :: U)
    refine Nat.le_trans (zswap (hm.1 q List.mem_cons_self) (by omega)) (Nat.mul_le_mul_left _ ih)
theorem zPw_ins {e : Nat} {U : List Nat} : ∀ {S m : List Nat}, m.Pairwise (· ≤ ·) → S.length + 1 ≤ m.length → S.Pairwise (· ≥ ·) → zPw m (zins e S ++ U) ≤ zPw m (S ++ e :: U)
  | [], _, _, _, _ => Nat.le_refl _
  | x :: S, [], _, hl, _ => by simp at hl
  | x :: S, p :: m, hm, hl, hs => by
    unfold zins
    split
    · rename_i hx
      refine zPw_front (T := x :: S) hm hl (fun y hy => ?_)
      rw [List.pairwise_cons] at hs
      rcases List.mem_cons.mp hy with z | z
      · subst z; exact hx
      · have := hs.1 y z; omega
    · rw [List.pairwise_cons] at hm hs
      show p ^ x * zPw m (zins e S ++ U) ≤ p ^ x * zPw m (S ++ e :: U)
      exact Nat.mul_le_mul_left _ (zPw_ins hm.2 (by simp only [List.length_cons] at hl ⊢; omega) hs.2)
theorem zPw_fold {m : List Nat} (hm : m.Pairwise (· ≤ ·)) : ∀ {l : List (Nat × Nat)} {S : List Nat}, S.Pairwise (· ≥ ·) → S.length + l.length ≤ m.length → zPw m (l.foldl (fun S q => zins q.2 S) S) ≤ zPw m (S ++ l.map Prod.snd)
  | [], S, _, _ => by rw [List.map_nil, List.append_nil]; exact Nat.le_refl _
  | q :: l, S, hs, hl => by
    rw [List.length_cons] at hl
    exact Nat.le_trans (zPw_fold hm (l := l) (zins_srt hs) (by rw [zins_len]; omega)) (zPw_ins hm (by omega) hs)
theorem zPw_low : ∀ (m : List Nat) (l : List (Nat × Nat)), zlow m → (l.map Prod.fst).Pairwise (· < ·) → (∀ q ∈ l, zprime q.1 ∧ 1 ≤ q.2) → (∀ b, m.head? = some b → ∀ q ∈ l, b ≤ q.1) → zPw m (l.map Prod.snd) ≤ zprod l
  | [], l, _, _, h2, _ => zprod_pos h2
  | b :: m, [], _, _, _, _ => Nat.le_refl 1
  | b :: m, (p, e) :: l, hm, h1, h2, h3 => by
    rw [List.map_cons, List.pairwise_cons] at h1
    have hbp := h3 b rfl (p, e) List.mem_cons_self
    have hp := (h2 (p, e) List.mem_cons_self).1
    have ih := zPw_low m l (by cases m with | nil => trivial | cons b' m => exact hm.2) h1.2 (fun q hq => h2 q (List.mem_cons_of_mem _ hq)) (fun b' hb' q hq => by
      cases m with
      | nil => cases hb'
      | cons b2 m =>
        cases hb'
        have := h1.1 q.1 (List.mem_map_of_mem hq)
        exact hm.1 q.1 (h2 q (List.mem_cons_of_mem _ hq)).1 (by have this : p < q.1 := this; omega))
    show b ^ e * zPw m (l.map Prod.snd) ≤ p ^ e * zprod l
    exact Nat.mul_le_mul (Nat.pow_le_pow_left hbp e) ih
theorem zten_le : zten.Pairwise (· ≤ ·) := by unfold zten; decide
theorem zshp_bd {n : Nat} {l : List (Nat × Nat)} (hn : n ≤ 999999999) (hG : zGood n l) : zPw zten (zshp l) ≤ n := by
  have h9 := zGood_nine hG (by omega)
  refine Nat.le_trans (zPw_fold zten_le (l := l) List.Pairwise.nil (by show 0 + l.length ≤ 10; omega)) ?_
  have := zPw_low zten l zlow_10 hG.1 hG.2.1 (fun b hb q hq => by cases hb; exact (hG.2.1 q hq).1.1)
  rw [hG.2.2] at this
  exact this
theorem zten_pr : ∀ p ∈ zten, zprime p := by
  have key : ∀ p : Nat, 2 ≤ p → (∀ d, d < p + 1 → d ∣ p → d = 1 ∨ d = p) → zprime p := fun p h2 h => ⟨h2, fun d hd => h d (by have := Nat.le_of_dvd (by omega) hd; omega) hd⟩
  intro p hp
  unfold zten at hp
  simp only [List.mem_cons, List.not_mem_nil, or_false] at hp
  rcases hp with rfl | rfl | rfl | rfl | rfl | rfl | rfl | rfl | rfl | rfl <;> exact key _ (by decide) (by decide)
/-! the model's number -/
/-! the case same -/
theorem zPw_pos : ∀ {m S : List Nat}, (∀ p ∈ m, 1 ≤ p) → 1 ≤ zPw m S
  | [], _, _ => Nat.le_refl _
  | _ :: _, [], _ => Nat.le_refl _
  | p :: m, e :: S, h => Nat.mul_pos (Nat.pow_pos (h p List.mem_cons_self)) (zPw_pos (fun q hq => h q (List.mem_cons_of_mem _ hq)))
section Z68
variable {w : zWt} {d : Nat} {H : zHt}
theorem zexp_bd {n : Nat} {l : List (Nat × Nat)} {q : Nat × Nat} (hn : n ≤ 999999999) (hG : zGood n l) (hq : q ∈ l) : 1 ≤ q.2 ∧ q.2 ≤ 29 := by
  obtain ⟨h1, h2, h3, -⟩ := zGood_pw hn hG hq
  refine ⟨h2, ?_⟩
  rcases Nat.lt_or_ge 29 q.2 with z | z
  · have : 2 ^ 30 ≤ q.1 ^ q.2 := zppw h1 (by omega) z
    omega
  · exact z
theorem zfac_good (w : zWt) {n : Nat} (h1 : 1 ≤ n) (hn : n ≤ 999999999) : zGood n (zfac n) := by
  obtain ⟨_, ⟨_, hG, _⟩, _⟩ := c45 (w := w) (H := fun _ _ => 0) (d := 0) (n := n) z_MR h1 hn
  exact hG
end Z68
/-! no number here has more than 1400 divisors: a search over falling lists -/
def zDs (S : List Nat) : Nat := S.foldr (fun e s => (e + 1) * s) 1
def zse (f : Nat → Nat → Nat) (p : Nat) : Nat → Nat → Nat
  | 0, b => f 0 b
  | e + 1, b => max (zse f p e b) (if p ^ (e + 1) ≤ b then (e + 2) * f (e + 1) (b / p ^ (e + 1)) else 0)
def zsrc : List Nat → Nat → Nat → Nat
  | [] => fun _ _ => 1
  | p :: ps => zse (zsrc ps) p
theorem zse_ok {f : Nat → Nat → Nat} {p b : Nat} : ∀ {cap e : Nat}, e ≤ cap → p ^ e ≤ b → (e + 1) * f e (b / p ^ e) ≤ zse f p cap b
  | 0, e, he, _ => by
    have : e = 0 := by omega
    subst this
    show (0 + 1) * f 0 (b / p ^ 0) ≤ f 0 b
    rw [Nat.pow_zero, Nat.div_one]; omega
  | cap + 1, e, he, hb => by
    show _ ≤ max (zse f p cap b) (if p ^ (cap + 1) ≤ b then (cap + 2) * f (cap + 1) (b / p ^ (cap + 1)) else 0)
    by_cases z : e = cap + 1
    · subst z
      rw [if_pos hb]
      exact Nat.le_max_right _ _
    · exact Nat.le_trans (zse_ok (by omega) hb) (Nat.le_max_left _ _)
theorem zsrc_1 : ∀ {ps : List Nat} {cap b : Nat}, 1 ≤ b → 1 ≤ zsrc ps cap b
  | [], _, _, _ => Nat.le_refl _
  | p :: ps, cap, b, h => by
    have := zse_ok (f := zsrc ps) (p := p) (b := b) (cap := cap) (e := 0) (Nat.zero_le _) (by rw [Nat.pow_zero]; exact h)
    rw [Nat.pow_zero, Nat.div_one] at this
    have h1 := zsrc_1 (ps := ps) (cap := 0) (b := b) h
    show 1 ≤ zse (zsrc ps) p cap b
    omega
theorem zsrc_ok : ∀ {ps S : List Nat} {cap b : Nat}, S.Pairwise (· ≥ ·) → (∀ e ∈ S, e ≤ cap) → (∀ p ∈ ps, 1 ≤ p) → S.length ≤ ps.length → zPw ps S ≤ b → zDs S ≤ zsrc ps cap b
  | ps, [], cap, b, _, _, hp, _, hb => by
    have : 1 ≤ zPw ps [] := zPw_pos hp
    exact zsrc_1 (by omega)
  | [], e :: S, _, _, _, _, _, hl, _ => by simp at hl
  | p :: ps, e :: S, cap, b, hs, hc, hp, hl, hb => by
    rw [List.pairwise_cons] at hs
    have hpe : 1 ≤ p ^ e := Nat.pow_pos (hp p List.mem_cons_self)
    have hb : p ^ e * zPw ps S ≤ b := hb
    have hz : 1 ≤ zPw ps S := zPw_pos (fun q hq => hp q (List.mem_cons_of_mem _ hq))
    have ih := zsrc_ok (ps := ps) (S := S) (cap := e) (b := b / p ^ e) hs.2 (fun x hx => hs.1 x hx) (fun q hq => hp q (List.mem_cons_of_mem _ hq)) (by simp only [List.length_cons] at hl; omega) ((Nat.le_div_iff_mul_le hpe).mpr (by rw [Nat.mul_comm]; exact hb))
    have h2 := zse_ok (f := zsrc ps) (p := p) (b := b) (cap := cap) (e := e) (hc e List.mem_cons_self) (Nat.le_trans (Nat.le_mul_of_pos_right _ hz) hb)
    show (e + 1) * zDs S ≤ zse (zsrc ps) p cap b
    exact Nat.le_trans (Nat.mul_le_mul_left _ ih) h2
theorem zsrc_v : zsrc zten 29 999999999 ≤ 1400 := by decide +kernel
theorem zDs_ins {e : Nat} : ∀ {S : List Nat}, zDs (zins e S) = (e + 1) * zDs S
  | [] => rfl
  | x :: S => by
    unfold zins
    split
    · rfl
    · show (x + 1) * zDs (zins e S) = (e + 1) * ((x + 1) * zDs S)
      rw [zDs_ins, Nat.mul_left_comm]
theorem zDs_fold : ∀ {l : List (Nat × Nat)} {S : List Nat}, zDs (l.foldl (fun S q => zins q.2 S) S) = zDs (l.map Prod.snd) * zDs S
  | [], S => by show zDs S = 1 * zDs S; rw [Nat.one_mul]
  | q :: l, S => by
    show zDs (l.foldl (fun S q => zins q.2 S) (zins q.2 S)) = (q.2 + 1) * zDs (l.map Prod.snd) * zDs S
    rw [zDs_fold, zDs_ins, Nat.mul_left_comm, Nat.mul_assoc]
theorem zdivs_1400 {n : Nat} {l : List (Nat × Nat)} (hn : n ≤ 999999999) (hG : zGood n l) : zDs (l.map Prod.snd) ≤ 1400 := by
  have h9 := zGood_nine hG (by omega)
  have e : zDs (zshp l) = zDs (l.map Prod.snd) := by
    unfold zshp
    rw [zDs_fold]; show _ * 1 = _; rw [Nat.mul_one]
  rw [← e]
  refine Nat.le_trans (zsrc_ok (ps := zten) (S := zshp l) (cap := 29) (b := 999999999) zshp_srt (fun x hx => ?_) (fun p hp => by have := (zten_pr p hp).1; omega) (by rw [zshp_len]; show _ ≤ 10; omega) (Nat.le_trans (zshp_bd hn hG) hn)) zsrc_v
  obtain ⟨q, hq, rfl⟩ := zshp_mem hx
  exact (zexp_bd hn hG hq).2

/-! all divisors of a number, by its factor list -/
def zdvp (p : Nat) (D : List Nat) : Nat → List Nat
  | 0 => D
  | e + 1 => zdvp p D e ++ D.map (fun y => p ^ (e + 1) * y)
def zdvl : List (Nat × Nat) → List Nat
  | [] => [1]
  | q :: l => zdvp q.1 (zdvl l) q.2
theorem zdvp_len {p : Nat} {D : List Nat} : ∀ {e : Nat}, (zdvp p D e).length = (e + 1) * D.length
  | 0 => by show D.length = (0 + 1) * D.length; rw [Nat.zero_add, Nat.one_mul]
  | e + 1 => by
    show (zdvp p D e ++ D.map (fun y => p ^ (e + 1) * y)).length = _
    rw [List.length_append, List.length_map, zdvp_len, Nat.add_mul (e + 1) 1, Nat.one_mul]
theorem zdvl_len : ∀ {l : List (Nat × Nat)}, (zdvl l).length = zDs (l.map Prod.snd)
  | [] => rfl
  | q :: l => by
    show (zdvp q.1 (zdvl l) q.2).length = (q.2 + 1) * zDs (l.map Prod.snd)
    rw [zdvp_len, zdvl_len]
theorem zdvp_mem {p x : Nat} {D : List Nat} : ∀ {e : Nat}, x ∈ zdvp p D e ↔ ∃ k, k ≤ e ∧ ∃ y ∈ D, x = p ^ k * y
  | 0 => ⟨fun h => ⟨0, Nat.le_refl _, x, h, by rw [Nat.pow_zero, Nat.one_mul]⟩, fun ⟨k, hk, y, hy, h⟩ => by
      have : k = 0 := by omega
      subst this
      rw [Nat.pow_zero, Nat.one_mul] at h
      subst h; exact hy⟩
  | e + 1 => by
    show x ∈ zdvp p D e ++ D.map (fun y => p ^ (e + 1) * y) ↔ _
    rw [List.mem_append, zdvp_mem]
    refine ⟨fun h => ?_, fun ⟨k, hk, y, hy, h⟩ => ?_⟩
    · rcases h with ⟨k, hk, y, hy, h⟩ | h
      · exact ⟨k, by omega, y, hy, h⟩
      · obtain ⟨y, hy, h⟩ := List.mem_map.mp h
        exact ⟨e + 1, Nat.le_refl _, y, hy, h.symm⟩
    · by_cases z : k = e + 1
      · subst z; exact Or.inr (List.mem_map.mpr ⟨y, hy, h.symm⟩)
      · exact Or.inl ⟨k, by omega, y, hy, h⟩
theorem zdvd_split {p m : Nat} (hp : zprime p) : ∀ {e x : Nat}, x ∣ p ^ e * m → ∃ k, k ≤ e ∧ ∃ y, y ∣ m ∧ x = p ^ k * y
  | 0, x, h => ⟨0, Nat.le_refl _, x, by rw [Nat.pow_zero, Nat.one_mul] at h; exact h, by rw [Nat.pow_zero, Nat.one_mul]⟩
  | e + 1, x, h => by
    by_cases z : p ∣ x
    · obtain ⟨x', rfl⟩ := z
      have h' : x' ∣ p ^ e * m := by
        rw [Nat.pow_succ, Nat.mul_comm (p ^ e) p, Nat.mul_assoc] at h
        exact Nat.dvd_of_mul_dvd_mul_left (by have := hp.1; omega) h
      obtain ⟨k, hk, y, hy, h2⟩ := zdvd_split hp h'
      exact ⟨k + 1, by omega, y, hy, by rw [h2, Nat.pow_succ, Nat.mul_comm (p ^ k) p, Nat.mul_assoc]⟩
    · have hc : Nat.Coprime (p ^ (e + 1)) x := Nat.Coprime.pow_left _ (zprime_cop hp z)
      exact ⟨0, Nat.zero_le _, x, Nat.Coprime.dvd_of_dvd_mul_left hc.symm h, by rw [Nat.pow_zero, Nat.one_mul]⟩
theorem zdvl_mem : ∀ {l : List (Nat × Nat)} {n x : Nat}, zGood n l → (x ∈ zdvl l ↔ x ∣ n)
  | [], n, x, h => by
    have : 1 = n := h.2.2
    subst this
    show x ∈ [1] ↔ _
    rw [List.mem_singleton, Nat.dvd_one]
  | (p, e) :: l, n, x, h => by
    obtain ⟨t, hp, he, -, hn, -⟩ := zGood_tail h
    show x ∈ zdvp p (zdvl l) e ↔ _
    rw [zdvp_mem, hn]
    refine ⟨fun ⟨k, hk, y, hy, h2⟩ => ?_, fun h2 => ?_⟩
    · rw [h2]
      exact Nat.mul_dvd_mul (Nat.pow_dvd_pow p hk) ((zdvl_mem t).mp hy)
    · obtain ⟨k, hk, y, hy, h3⟩ := zdvd_split hp h2
      exact ⟨k, hk, y, (zdvl_mem t).mpr hy, h3⟩
theorem zdvp_nodup {p : Nat} {D : List Nat} (hp : 2 ≤ p) (hD : D.Nodup) (hn : ∀ y ∈ D, ¬ p ∣ y) : ∀ {e : Nat}, (zdvp p D e).Nodup
  | 0 => hD
  | e + 1 => by
    have hpos : 0 < p ^ (e + 1) := Nat.pow_pos (by omega)
    show (zdvp p D e ++ D.map (fun y => p ^ (e + 1) * y)).Nodup
    rw [List.nodup_append]
    refine ⟨zdvp_nodup hp hD hn, ?_, fun a ha b hb hab => ?_⟩
    · unfold List.Nodup
      rw [List.pairwise_map]
      exact List.Pairwise.imp (fun hxy q => hxy (Nat.eq_of_mul_eq_mul_left hpos q)) hD
    · obtain ⟨k, hk, y, hy, h1⟩ := zdvp_mem.mp ha
      obtain ⟨y', hy', h2⟩ := List.mem_map.mp hb
      rw [h1, ← h2, show e + 1 = k + (e - k + 1) by omega, Nat.pow_add, Nat.mul_assoc] at hab
      have h3 := Nat.eq_of_mul_eq_mul_left (Nat.pow_pos (by omega)) hab
      exact hn y hy (by rw [h3, Nat.pow_succ, Nat.mul_comm _ p, Nat.mul_assoc]; exact Nat.dvd_mul_right _ _)
theorem zdvl_nodup : ∀ {l : List (Nat × Nat)} {n : Nat}, zGood n l → (zdvl l).Nodup
  | [], _, _ => by show [1].Nodup; simp
  | (p, e) :: l, n, h => by
    obtain ⟨t, hp, he, -, -, hnd⟩ := zGood_tail h
    exact zdvp_nodup hp.1 (zdvl_nodup t) (fun y hy q => hnd (Nat.dvd_trans q ((zdvl_mem t).mp hy)))

/-! all divisors of a number, rising; the model's order of them, the class's k-th -/
def zdlo (n : Nat) : Nat → List Nat
  | 0 => []
  | k + 1 => zdlo n k ++ (if n % (k + 1) = 0 then [k + 1] else [])
def zdhi (n : Nat) : Nat → List Nat
  | 0 => []
  | k + 1 => (if n % (k + 1) = 0 ∧ k + 1 ≠ n / (k + 1) then [n / (k + 1)] else []) ++ zdhi n k
theorem zdlo_s {n k : Nat} : zdlo n (k + 1) = zdlo n k ++ (if n % (k + 1) = 0 then [k + 1] else []) := rfl
theorem zdhi_s {n k : Nat} : zdhi n (k + 1) = (if n % (k + 1) = 0 ∧ k + 1 ≠ n / (k + 1) then [n / (k + 1)] else []) ++ zdhi n k := rfl
theorem zdlo_mem {n x : Nat} : ∀ {k : Nat}, x ∈ zdlo n k ↔ 1 ≤ x ∧ x ≤ k ∧ n % x = 0
  | 0 => ⟨fun h => (by cases h), fun h => by omega⟩
  | k + 1 => by
    rw [zdlo_s, List.mem_append, zdlo_mem]
    by_cases z : n % (k + 1) = 0
    · rw [if_pos z, List.mem_singleton]
      refine ⟨fun h => ?_, fun h => ?_⟩
      · rcases h with h | h
        · exact ⟨h.1, by omega, h.2.2⟩
        · rw [h]; exact ⟨by omega, Nat.le_refl _, z⟩
      · by_cases y : x = k + 1
        · exact Or.inr y
        · exact Or.inl ⟨h.1, by omega, h.2.2⟩
    · rw [if_neg z]
      refine ⟨fun h => ?_, fun h => ?_⟩
      · rcases h with h | h
        · exact ⟨h.1, by omega, h.2.2⟩
        · cases h
      · refine Or.inl ⟨h.1, ?_, h.2.2⟩
        have : x ≠ k + 1 := fun q => z (q ▸ h.2.2)
        omega
theorem zdlo_srt {n : Nat} : ∀ {k : Nat}, (zdlo n k).Pairwise (· < ·)
  | 0 => List.Pairwise.nil
  | k + 1 => by
    rw [zdlo_s, List.pairwise_append]
    refine ⟨zdlo_srt, ?_, fun a ha b hb => ?_⟩
    · split
      · exact List.pairwise_singleton _ _
      · exact List.Pairwise.nil
    · have := (zdlo_mem.mp ha).2.1
      split at hb
      · rw [List.mem_singleton] at hb; omega
      · cases hb
theorem zdlo_pre {n k : Nat} : ∀ {c : Nat}, ∃ t, zdlo n (k + c) = zdlo n k ++ t
  | 0 => ⟨[], (List.append_nil _).symm⟩
  | c + 1 => by
    obtain ⟨t, h⟩ := zdlo_pre (n := n) (k := k) (c := c)
    refine ⟨t ++ (if n % (k + c + 1) = 0 then [k + c + 1] else []), ?_⟩
    rw [← Nat.add_assoc, zdlo_s, h, List.append_assoc]
theorem zdlo_le {n k m : Nat} (h : k ≤ m) : ∃ t, zdlo n m = zdlo n k ++ t := by
  obtain ⟨c, rfl⟩ : ∃ c, m = k + c := ⟨m - k, by omega⟩
  exact zdlo_pre
theorem zdq {n d : Nat} (h : n % d = 0) : d * (n / d) = n := Nat.mul_div_cancel' (Nat.dvd_of_mod_eq_zero h)
theorem zdqm {n d : Nat} (h1 : 1 ≤ n) (h : n % d = 0) : 1 ≤ n / d ∧ n / d ≤ n ∧ n % (n / d) = 0 ∧ n / (n / d) = d ∧ 1 ≤ d := by
  have e := zdq h
  have hq : 1 ≤ n / d := by
    rcases Nat.eq_zero_or_pos (n / d) with z | z
    · rw [z, Nat.mul_zero] at e; omega
    · exact z
  have hd : 1 ≤ d := by
    rcases Nat.eq_zero_or_pos d with z | z
    · rw [z, Nat.zero_mul] at e; omega
    · exact z
  refine ⟨hq, Nat.div_le_self _ _, Nat.mod_eq_zero_of_dvd ⟨d, by rw [Nat.mul_comm]; exact e.symm⟩, ?_, hd⟩
  conv => lhs; lhs; rw [← e]
  exact Nat.mul_div_cancel d hq
/-- of two divisors the lesser one has the greater quotient -/
theorem zdq_lt {n a b : Nat} (h1 : 1 ≤ n) (ha : n % a = 0) (hb : n % b = 0) (h : a < b) : n / b < n / a := by
  have ea := zdq ha
  have eb := zdq hb
  obtain ⟨qa, -, -, -, -⟩ := zdqm h1 ha
  obtain ⟨qb, -, -, -, -⟩ := zdqm h1 hb
  rcases Nat.lt_or_ge (n / b) (n / a) with z | z
  · exact z
  · have h2 := Nat.mul_le_mul (show a + 1 ≤ b from h) z
    rw [Nat.add_mul, Nat.one_mul] at h2
    omega
theorem zsrt_eq : ∀ {l l' : List Nat}, l.Pairwise (· < ·) → l'.Pairwise (· < ·) → (∀ x, x ∈ l ↔ x ∈ l') → l = l'
  | [], [], _, _, _ => rfl
  | [], b :: l', _, _, h => absurd ((h b).mpr List.mem_cons_self) List.not_mem_nil
  | a :: l, [], _, _, h => absurd ((h a).mp List.mem_cons_self) List.not_mem_nil
  | a :: l, b :: l', h1, h2, h => by
    rw [List.pairwise_cons] at h1 h2
    have ha := (h a).mp List.mem_cons_self
    have hb := (h b).mpr List.mem_cons_self
    have e : a = b := by
      rcases List.mem_cons.mp ha with z | z
      · exact z
      · rcases List.mem_cons.mp hb with y | y
        · exact y.symm
        · have := h1.1 b y
          have := h2.1 a z
          omega
    subst e
    rw [zsrt_eq h1.2 h2.2 (fun x => ⟨fun hx => by
      have := h1.1 x hx
      rcases List.mem_cons.mp ((h x).mp (List.mem_cons_of_mem _ hx)) with z | z
      · omega
      · exact z, fun hx => by
      have := h2.1 x hx
      rcases List.mem_cons.mp ((h x).mpr (List.mem_cons_of_mem _ hx)) with z | z
      · omega
      · exact z⟩)]
theorem znd_le : ∀ {l l' : List Nat}, l.Nodup → (∀ x ∈ l, x ∈ l') → l.length ≤ l'.length
  | [], _, _, _ => Nat.zero_le _
  | a :: l, l', h, hs => by
    rw [List.nodup_cons] at h
    have ha := hs a List.mem_cons_self
    have h1 := znd_le (l' := l'.erase a) h.2 (fun x hx => (List.mem_erase_of_ne (fun (q : x = a) => h.1 (by rw [← q]; exact hx))).mpr (hs x (List.mem_cons_of_mem _ hx)))
    rw [List.length_erase_of_mem ha] at h1
    have := List.length_pos_of_mem ha
    rw [List.length_cons]; omega
theorem zsrt_nd {l : List Nat} (h : l.Pairwise (· < ·)) : l.Nodup := List.Pairwise.imp (fun q => Nat.ne_of_lt q) h
theorem zDs_n : ∀ {l : List (Nat × Nat)}, zDs (l.map Prod.snd) = zDn l
  | [] => rfl
  | q :: l => by
    show (q.2 + 1) * zDs (l.map Prod.snd) = (q.2 + 1) * zDn l
    rw [zDs_n]
theorem zdlo_dvd {n x : Nat} (h1 : 1 ≤ n) : x ∈ zdlo n n ↔ x ∣ n := by
  rw [zdlo_mem]
  refine ⟨fun h => Nat.dvd_of_mod_eq_zero h.2.2, fun h => ⟨Nat.pos_of_dvd_of_pos h h1, Nat.le_of_dvd h1 h, Nat.mod_eq_zero_of_dvd h⟩⟩
/-- how many there are -/
theorem zdlo_len {n : Nat} (h1 : 1 ≤ n) (hn : n ≤ 999999999) (hG : zGood n (zfac n)) : (zdlo n n).length = zDn (zfac n) ∧ (zdlo n n).length ≤ 1400 := by
  have e : (zdlo n n).length = zDs ((zfac n).map Prod.snd) := by
    rw [← zdvl_len]
    refine Nat.le_antisymm (znd_le (zsrt_nd zdlo_srt) (fun x hx => (zdvl_mem hG).mpr ((zdlo_dvd h1).mp hx))) (znd_le (zdvl_nodup hG) (fun x hx => (zdlo_dvd h1).mpr ((zdvl_mem hG).mp hx)))
  refine ⟨e.trans zDs_n, ?_⟩
  rw [e]
  exact zdivs_1400 hn hG
theorem zdhi_mem {n x : Nat} : ∀ {k : Nat}, x ∈ zdhi n k ↔ ∃ d, 1 ≤ d ∧ d ≤ k ∧ n % d = 0 ∧ d ≠ n / d ∧ x = n / d
  | 0 => ⟨fun h => (by cases h), fun ⟨d, h1, h2, _⟩ => by omega⟩
  | k + 1 => by
    rw [zdhi_s, List.mem_append, zdhi_mem]
    refine ⟨fun h => ?_, fun ⟨d, h1, h2, h3, h4, h5⟩ => ?_⟩
    · rcases h with h | ⟨d, h1, h2, h3, h4, h5⟩
      · split at h
        · rename_i z
          rw [List.mem_singleton] at h
          exact ⟨k + 1, by omega, Nat.le_refl _, z.1, z.2, h⟩
        · cases h
      · exact ⟨d, h1, by omega, h3, h4, h5⟩
    · by_cases z : d = k + 1
      · subst z
        left
        rw [if_pos ⟨h3, h4⟩, List.mem_singleton]
        exact h5
      · exact Or.inr ⟨d, h1, by omega, h3, h4, h5⟩
theorem zdhi_srt {n : Nat} (h1 : 1 ≤ n) : ∀ {k : Nat}, (zdhi n k).Pairwise (· < ·)
  | 0 => List.Pairwise.nil
  | k + 1 => by
    rw [zdhi_s, List.pairwise_append]
    refine ⟨?_, zdhi_srt h1, fun a ha b hb => ?_⟩
    · split
      · exact List.pairwise_singleton _ _
      · exact List.Pairwise.nil
    · split at ha
      · rename_i z
        rw [List.mem_singleton] at ha
        obtain ⟨d, d1, d2, d3, d4, rfl⟩ := zdhi_mem.mp hb
        rw [ha]
        exact zdq_lt h1 d3 z.1 (by omega)
      · cases ha
theorem zdhi_le {n : Nat} : ∀ {k : Nat}, (zdhi n k).length ≤ (zdlo n k).length
  | 0 => Nat.le_refl _
  | k + 1 => by
    have := zdhi_le (n := n) (k := k)
    rw [zdhi_s, zdlo_s, List.length_append, List.length_append]
    by_cases z : n % (k + 1) = 0
    · rw [if_pos z]
      split
      · show 1 + _ ≤ _ + 1; omega
      · show 0 + _ ≤ _ + 1; omega
    · rw [if_neg z, if_neg (fun q => z q.1)]
      show 0 + _ ≤ _ + 0; omega
theorem zsqrt (n : Nat) : ∃ r, r * r ≤ n ∧ n < (r + 1) * (r + 1) := by
  induction n with
  | zero => exact ⟨0, by decide, by decide⟩
  | succ n ih =>
    obtain ⟨r, h1, h2⟩ := ih
    by_cases z : n + 1 < (r + 1) * (r + 1)
    · exact ⟨r, by omega, z⟩
    · refine ⟨r + 1, by omega, ?_⟩
      have e : (r + 1 + 1) * (r + 1 + 1) = (r + 1) * (r + 1) + (r + 1) + (r + 1) + 1 := by
        rw [Nat.add_mul (r + 1) 1, Nat.mul_add (r + 1) (r + 1) 1]; omega
      omega
theorem zsq_le {n r d : Nat} (h : r * r ≤ n ∧ n < (r + 1) * (r + 1)) : d * d ≤ n ↔ d ≤ r := by
  refine ⟨fun q => ?_, fun q => Nat.le_trans (Nat.mul_le_mul q q) h.1⟩
  rcases Nat.lt_or_ge r d with z | z
  · have := Nat.mul_le_mul (show r + 1 ≤ d from z) (show r + 1 ≤ d from z)
    omega
  · exact z
/-- the model's order is the rising one -/
theorem zdlo_hi {n r : Nat} (h1 : 1 ≤ n) (h : r * r ≤ n ∧ n < (r + 1) * (r + 1)) : zdlo n r ++ zdhi n r = zdlo n n := by
  refine zsrt_eq (List.pairwise_append.mpr ⟨zdlo_srt, zdhi_srt h1, fun a ha b hb => ?_⟩) zdlo_srt (fun x => ?_)
  · obtain ⟨d, d1, d2, d3, d4, rfl⟩ := zdhi_mem.mp hb
    have ha := (zdlo_mem.mp ha).2.1
    rcases Nat.lt_or_ge r (n / d) with z | z
    · omega
    · exfalso
      have e := zdq d3
      by_cases y : d = r
      · subst y
        have h3 : d * d ≤ d * (n / d) := by omega
        have := Nat.le_of_mul_le_mul_left h3 d1
        omega
      · have h3 := Nat.mul_le_mul (show d + 1 ≤ r by omega) (Nat.le_refl r)
        have h4 := Nat.mul_le_mul (Nat.le_refl d) z
        rw [Nat.add_mul] at h3
        omega
  · rw [List.mem_append, zdlo_mem, zdlo_mem, zdhi_mem]
    refine ⟨fun q => ?_, fun q => ?_⟩
    · rcases q with q | ⟨d, d1, d2, d3, d4, rfl⟩
      · exact ⟨q.1, Nat.le_of_dvd h1 (Nat.dvd_of_mod_eq_zero q.2.2), q.2.2⟩
      · obtain ⟨a1, a2, a3, -, -⟩ := zdqm h1 d3
        exact ⟨a1, a2, a3⟩
    · rcases Nat.lt_or_ge r x with z | z
      · right
        obtain ⟨a1, a2, a3, a4, -⟩ := zdqm h1 q.2.2
        have e := zdq q.2.2
        have hd : n / x ≤ r := by
          rcases Nat.lt_or_ge r (n / x) with y | y
          · have := Nat.mul_le_mul (show r + 1 ≤ x from z) (show r + 1 ≤ n / x from y)
            omega
          · exact y
        exact ⟨n / x, a1, hd, a3, by omega, a4.symm⟩
      · exact Or.inl ⟨q.1, z, q.2.2⟩
/-- the last ones are the quotients by the first ones -/
theorem zdlo_rev {n : Nat} (h1 : 1 ≤ n) : (zdlo n n).reverse.map (fun d => n / d) = zdlo n n := by
  have hs : ((zdlo n n).reverse.map (fun d => n / d)).Pairwise (· < ·) := by
    rw [List.pairwise_map, List.pairwise_reverse]
    have e := zdlo_srt (n := n) (k := n)
    refine List.Pairwise.imp_of_mem (fun {a b} ha hb q => ?_) e
    exact zdq_lt h1 (zdlo_mem.mp ha).2.2 (zdlo_mem.mp hb).2.2 q
  refine zsrt_eq hs zdlo_srt (fun x => ?_)
  rw [List.mem_map]
  refine ⟨fun ⟨d, hd, e⟩ => ?_, fun hx => ?_⟩
  · have hd := zdlo_mem.mp (List.mem_reverse.mp hd)
    obtain ⟨a1, a2, a3, -, -⟩ := zdqm h1 hd.2.2
    rw [← e]
    exact zdlo_mem.mpr ⟨a1, a2, a3⟩
  · have hx := zdlo_mem.mp hx
    obtain ⟨a1, a2, a3, a4, -⟩ := zdqm h1 hx.2.2
    exact ⟨n / x, List.mem_reverse.mpr (zdlo_mem.mpr ⟨a1, a2, a3⟩), a4⟩
theorem zdlo_at {n k : Nat} (h1 : 1 ≤ n) (hk : k < (zdlo n n).length) : (zdlo n n).getD k 0 = n / (zdlo n n).getD ((zdlo n n).length - 1 - k) 0 := by
  have e : (zdlo n n).getD k 0 = ((zdlo n n).reverse.map (fun d => n / d)).getD k 0 := by rw [zdlo_rev h1]
  rw [e, List.getD_eq_getElem?_getD, List.getD_eq_getElem?_getD, List.getElem?_map, List.getElem?_reverse hk, List.getElem?_eq_getElem (by omega)]
  rfl
theorem zgetD_app {l t : List Nat} {k : Nat} (h : k < l.length) : (l ++ t).getD k 0 = l.getD k 0 := by
  rw [List.getD_eq_getElem?_getD, List.getD_eq_getElem?_getD, List.getElem?_append_left h]

/-! the case divisor -/
section Z74
variable {w : zWt} {d : Nat} {H : zHt}
/-- the class's search from below -/
theorem c72l {n r k : Nat} {K : Int → zHt → Prop} (hn : n ≤ 999999999) (hr : r * r ≤ n ∧ n < (r + 1) * (r + 1)) (hk : k < (zdlo n r).length) (hK : K (((zdlo n r).getD k 0 : Nat) : Int) H) : ∀ (c j : Nat), j + c = r → (zdlo n j).length ≤ k → zgo w d 72 4 [zI n, zI k, zI ((zdlo n j).length : Int), zI ((j + 1 : Nat) : Int)] [] H (zQI K) := by
  have hrb := zsq_lt (show r * r ≤ 999999999 by omega)
  intro c
  induction c with
  | zero =>
    intro j hj hl
    have : j = r := by omega
    subst this
    omega
  | succ c ih =>
    intro j hj hl
    have h2 := (zsq_le (d := j + 1) hr).mpr (by omega)
    have h3 : j + 1 ≤ n / (j + 1) := (Nat.le_div_iff_mul_le (by omega)).mpr h2
    have hle : n / (j + 1) ≤ n := Nat.div_le_self _ _
    obtain ⟨t, ht⟩ := zdlo_le (n := n) (show j + 1 ≤ r by omega)
    have hlr : (zdlo n j).length ≤ j := by
      have := znd_le (l := zdlo n j) (l' := List.range' 1 j) (zsrt_nd zdlo_srt) (fun x hx => by
        have := zdlo_mem.mp hx
        rw [List.mem_range'_1]; omega)
      rw [List.length_range'] at this; exact this
    refine x72_4 ⟨by omega, ?_⟩
    rw [ztdiv, zw32n hle hn, ztmod, zi1 (m := (zdlo n j).length) (by omega), zi1 (m := j + 1) (by omega)]
    refine ⟨fun q => by omega, fun _ => ⟨fun q => ⟨fun q2 => ?_, fun q2 => ?_⟩, fun q => ?_⟩⟩
    · have hq : n % (j + 1) = 0 := by omega
      have e : (zdlo n (j + 1)).length = (zdlo n j).length + 1 := by
        rw [zdlo_s, if_pos hq, List.length_append]; rfl
      have := ih (j + 1) (by omega) (by rw [e]; omega)
      rw [e] at this
      exact this
    · have hq : n % (j + 1) = 0 := by omega
      have hk2 : k = (zdlo n j).length := by omega
      rw [zdlo_s, if_pos hq] at ht
      rw [ht, hk2, List.append_assoc, List.getD_eq_getElem?_getD, List.getElem?_append_right (Nat.le_refl _), Nat.sub_self] at hK
      exact hK
    · have e : zdlo n (j + 1) = zdlo n j := by rw [zdlo_s, if_neg (by omega), List.append_nil]
      have := ih (j + 1) (by omega) (by rw [e]; exact hl)
      rw [e] at this
      exact this
theorem c72 {n k : Nat} {K : Int → zHt → Prop} (h1 : 1 ≤ n) (hn : n ≤ 999999999) (hk : 2 * k < (zdlo n n).length) : zclI w d 72 [zI n, zI k] H K = K (((zdlo n n).getD k 0 : Nat) : Int) H := by
  obtain ⟨r, hr⟩ := zsqrt n
  have e := zdlo_hi h1 hr
  have hl := zdhi_le (n := n) (k := r)
  have hk2 : k < (zdlo n r).length := by
    rw [← e, List.length_append] at hk
    omega
  rw [← e, zgetD_app hk2]
  exact zclI_eq fun K hK => x72_0 (c72l hn hr hk2 hK r 0 (by omega) (Nat.zero_le _))
end Z74
noncomputable def zAdiv (v k : Int) : Int × Int := if (1 ≤ v ∧ v ≤ 999999999) ∧ -1 ≤ k then (if k = -1 then (0, ((zdlo v.toNat v.toNat).length : Int)) else if ((zdlo v.toNat v.toNat).length : Int) ≤ k then (5, -1) else (0, (((zdlo v.toNat v.toNat).getD k.toNat 0 : Nat) : Int))) else (1, -1)
section Z74c
variable {w : zWt} {d : Nat} {H : zHt}
theorem b70 {v k : Int} (hMR : zMR) (rk : r32 k) : zclI w (d + 4) 70 [zR 32, zI v, zI k] H (zPC H (zAdiv v k)) := by
  unfold zAdiv
  by_cases hg : (1 ≤ v ∧ v ≤ 999999999) ∧ -1 ≤ k
  · rw [if_pos hg]
    obtain ⟨n, rfl⟩ : ∃ n : Nat, v = n := ⟨v.toNat, by omega⟩
    rw [Int.toNat_natCast]
    have h1 : 1 ≤ n := by omega
    have hn : n ≤ 999999999 := by omega
    have hG := zfac_good w h1 hn
    obtain ⟨H1, f, e⟩ := c71 (w := w) (d := d) (H := H) (n := n) hMR h1 hn
    obtain ⟨L1, L2⟩ := zdlo_len h1 hn hG
    have ea : zcnt (zfac n) = ((zdlo n n).length : Int) := by rw [L1]; exact (zcnt_n hn hG).1
    have F : zcf H H1 := zcf_fc zcf_rfl f
    refine x70_0 ?_
    simp only [c43, zit0, Classical.not_not]
    refine ⟨fun q => absurd hg.1 q, fun _ => ⟨fun _ => ?_, fun q => by omega⟩⟩
    rw [e, ea]
    refine ⟨fun q => ⟨fun q2 => ?_, fun q2 => ?_⟩, fun q => ?_⟩
    · obtain ⟨m, rfl⟩ : ∃ m : Nat, k = m := ⟨k.toNat, by omega⟩
      rw [if_neg (by omega), if_neg (by omega), Int.toNat_natCast]
      have hm : m < (zdlo n n).length := by omega
      rw [w32_id (show _ ≤ 2 * (m : Int) ∧ _ by omega)]
      refine ⟨fun q3 => ?_, fun q3 => ?_⟩
      · rw [w32_id (show _ ≤ ((zdlo n n).length : Int) - 1 ∧ _ by omega), w32_id (show _ ≤ ((zdlo n n).length : Int) - 1 - m ∧ _ by omega), show ((zdlo n n).length : Int) - 1 - (m : Int) = (((zdlo n n).length - 1 - m : Nat) : Int) by omega, c72 h1 hn (by omega)]
        have hj : (zdlo n n).length - 1 - m < (zdlo n n).length := by omega
        have hmem : (zdlo n n).getD ((zdlo n n).length - 1 - m) 0 ∈ zdlo n n := by
          rw [List.getD_eq_getElem?_getD, List.getElem?_eq_getElem hj]
          exact List.getElem_mem hj
        have hx := zdlo_mem.mp hmem
        have eq := zdlo_at h1 hm
        generalize (zdlo n n).getD ((zdlo n n).length - 1 - m) 0 = x at hx eq
        have ei : (if (1 : Int) < (x : Int) then (x : Int) else 1) = (x : Int) := by
          by_cases z : (1 : Int) < (x : Int)
          · rw [if_pos z]
          · rw [if_neg z]; omega
        have hle : n / x ≤ n := Nat.div_le_self _ _
        rw [ei, ztdiv, zw32n hle hn]
        exact ⟨by omega, zPC_d F (by rw [eq])⟩
      · rw [c72 h1 hn (by omega)]
        exact zPC_d F rfl
    · rw [if_neg (by omega), if_pos (by omega)]
      exact zPC_r F rfl
    · rw [if_pos q]
      exact zPC_d F rfl
  · have eA : (1, -1) = ((1 : Int), (-1 : Int)) := rfl
    rw [if_neg hg]
    refine x70_0 ?_
    simp only [c43, zit0, Classical.not_not]
    repeat' (first | exact zPC_r zcf_rfl eA | omega | intro _ | with_reducible refine And.intro ?_ ?_)
end Z74c
