/-! shapes: how often, falling, and the two numbers for it -/
def zins (e : Nat) : List Nat → List Nat
  | [] => [e]
  | x :: S => if x < e then e :: x :: S else x :: zins e S
def zshp (l : List (Nat × Nat)) : List Nat := l.foldl (fun S q => zins q.2 S) []
theorem zins_app {e : Nat} {B : List Nat} : ∀ {A : List Nat}, (∀ x ∈ A, e ≤ x) → zins e (A ++ B) = A ++ zins e B
  | [], _ => rfl
  | x :: A, h => by
    show (if x < e then e :: x :: (A ++ B) else x :: zins e (A ++ B)) = x :: (A ++ zins e B)
    have := h x List.mem_cons_self
    rw [if_neg (by omega), zins_app (fun y hy => h y (List.mem_cons_of_mem _ hy))]
theorem zins_lt {e : Nat} {B : List Nat} (h : ∀ x ∈ B, x < e) : zins e B = e :: B := by
  cases B with
  | nil => rfl
  | cons x B => show (if x < e then e :: x :: B else x :: zins e B) = _; rw [if_pos (h x List.mem_cons_self)]
theorem zins_len {e : Nat} : ∀ {S : List Nat}, (zins e S).length = S.length + 1
  | [] => rfl
  | x :: S => by
    unfold zins
    split
    · rfl
    · show (zins e S).length + 1 = _; rw [zins_len]; rfl
theorem zins_mem {e y : Nat} : ∀ {S : List Nat}, y ∈ zins e S ↔ y = e ∨ y ∈ S
  | [] => by unfold zins; simp
  | x :: S => by
    unfold zins
    split
    · simp
    · rw [List.mem_cons, zins_mem, List.mem_cons]
      refine ⟨fun h => ?_, fun h => ?_⟩
      · rcases h with z | z | z
        · exact Or.inr (Or.inl z)
        · exact Or.inl z
        · exact Or.inr (Or.inr z)
      · rcases h with z | z | z
        · exact Or.inr (Or.inl z)
        · exact Or.inl z
        · exact Or.inr (Or.inr z)
theorem zins_srt {e : Nat} : ∀ {S : List Nat}, S.Pairwise (· ≥ ·) → (zins e S).Pairwise (· ≥ ·)
  | [], _ => by unfold zins; simp
  | x :: S, h => by
    rw [List.pairwise_cons] at h
    unfold zins
    split
    · rw [List.pairwise_cons, List.pairwise_cons]
      refine ⟨fun y hy => ?_, h⟩
      rcases List.mem_cons.mp hy with z | z
      · subst z; omega
      · have := h.1 y z; omega
    · rw [List.pairwise_cons]
      refine ⟨fun y hy => ?_, zins_srt h.2⟩
      rcases zins_mem.mp hy with z | z
      · subst z; omega
      · exact h.1 y z
theorem zshp_add {l : List (Nat × Nat)} {q : Nat × Nat} : zshp (l ++ [q]) = zins q.2 (zshp l) := by
  unfold zshp
  rw [List.foldl_append]; rfl
theorem zfold_P {P : List Nat → Prop} (hP : ∀ (e : Nat) (S : List Nat), P S → P (zins e S)) : ∀ {l : List (Nat × Nat)} {S : List Nat}, P S → P (l.foldl (fun S q => zins q.2 S) S)
  | [], _, h => h
  | q :: l, S, h => zfold_P hP (l := l) (hP q.2 S h)
theorem zshp_srt {l : List (Nat × Nat)} : (zshp l).Pairwise (· ≥ ·) := zfold_P (P := fun S => S.Pairwise (· ≥ ·)) (fun _ _ h => zins_srt h) List.Pairwise.nil
theorem zfold_len : ∀ {l : List (Nat × Nat)} {S : List Nat}, (l.foldl (fun S q => zins q.2 S) S).length = S.length + l.length
  | [], _ => rfl
  | q :: l, S => by
    show (l.foldl (fun S q => zins q.2 S) (zins q.2 S)).length = _
    rw [zfold_len, zins_len, List.length_cons]; omega
theorem zshp_len {l : List (Nat × Nat)} : (zshp l).length = l.length := by
  unfold zshp
  rw [zfold_len]; simp
theorem zfold_mem {y : Nat} : ∀ {l : List (Nat × Nat)} {S : List Nat}, y ∈ l.foldl (fun S q => zins q.2 S) S → y ∈ S ∨ ∃ q ∈ l, y = q.2
  | [], _, h => Or.inl h
  | q :: l, S, h => by
    rcases zfold_mem (l := l) h with z | ⟨r, hr, z⟩
    · rcases zins_mem.mp z with y1 | y1
      · exact Or.inr ⟨q, List.mem_cons_self, y1⟩
      · exact Or.inl y1
    · exact Or.inr ⟨r, List.mem_cons_of_mem _ hr, z⟩
theorem zshp_mem {y : Nat} {l : List (Nat × Nat)} (h : y ∈ zshp l) : ∃ q ∈ l, y = q.2 := by
  rcases zfold_mem (l := l) (S := []) h with z | z
  · cases z
  · exact z
/-! the class's number -/
def zPw : List Nat → List Nat → Nat
  | p :: ps, e :: S => p ^ e * zPw ps S
  | _, _ => 1
def zten : List Nat := [2, 3, 5, 7, 11, 13, 17, 19, 23, 29]
theorem zswap {p q e x R : Nat} (hp : p ≤ q) (he : x ≤ e) : p ^ e * (q ^ x * R) ≤ p ^ x * (q ^ e * R) := by
  obtain ⟨k, rfl⟩ : ∃ k, e = x + k := ⟨e - x, by omega⟩
  rw [Nat.pow_add, Nat.pow_add]
  have h : p ^ k ≤ q ^ k := Nat.pow_le_pow_left hp k
  have e1 : p ^ x * p ^ k * (q ^ x * R) = p ^ x * (q ^ x * R) * p ^ k := by rw [Nat.mul_right_comm]
  have e2 : p ^ x * (q ^ x * q ^ k * R) = p ^ x * (q ^ x * R) * q ^ k := by rw [Nat.mul_right_comm (q ^ x), ← Nat.mul_assoc]
  rw [e1, e2]
  exact Nat.mul_le_mul_left _ h
theorem zPw_front {e : Nat} {U : List Nat} : ∀ {T m : List Nat}, m.Pairwise (· ≤ ·) → T.length + 1 ≤ m.length → (∀ x ∈ T, x < e) → zPw m (e :: (T ++ U)) ≤ zPw m (T ++ e :: U)
  | [], _, _, _, _ => Nat.le_refl _
  | x :: T, [], _, hl, _ => by simp at hl
  | x :: T, [p], _, hl, _ => by simp at hl
  | x :: T, p :: q :: m, hm, hl, h => by
    rw [List.pairwise_cons] at hm
    have ih := zPw_front (e := e) (U := U) (T := T) (m := q :: m) hm.2 (by simp only [List.length_cons] at hl ⊢; omega) (fun y hy => h y (List.mem_cons_of_mem _ hy))
    have hx := h x List.mem_cons_self
    show p ^ e * (q ^ x * zPw m (T ++ U)) ≤ p ^ x * zPw (q :: m) (T ++ e :: U)
    refine Nat.le_trans (zswap (hm.1 q List.mem_cons_self) (by omega)) (Nat.mul_le_mul_left _ ih)
theorem zPw_ins {e : Nat} {U : List Nat} : ∀ {S m : List Nat}, m.Pairwise (· ≤ ·) → S.length + 1 ≤ m.length → S.Pairwise (· ≥ ·) → zPw m (zins e S ++ U) ≤ zPw m (S ++ e :: U)
  | [], _, _, _, _ => Nat.le_refl _
  | x :: S, [], _, hl, _ => by simp at hl
  | x :: S, p :: m, hm, hl, hs => by
    unfold zins
    split
    · rename_i hx
      refine zPw_front (T := x :: S) hm hl (fun y hy => ?_)
      rw [List.pairwise_cons] at hs
      rcases List.mem_cons.mp hy with z | z
      · subst z; exact hx
      · have := hs.1 y z; omega
    · rw [List.pairwise_cons] at hm hs
      show p ^ x * zPw m (zins e S ++ U) ≤ p ^ x * zPw m (S ++ e :: U)
      exact Nat.mul_le_mul_left _ (zPw_ins hm.2 (by simp only [List.length_cons] at hl ⊢; omega) hs.2)
theorem zPw_fold {m : List Nat} (hm : m.Pairwise (· ≤ ·)) : ∀ {l : List (Nat × Nat)} {S : List Nat}, S.Pairwise (· ≥ ·) → S.length + l.length ≤ m.length → zPw m (l.foldl (fun S q => zins q.2 S) S) ≤ zPw m (S ++ l.map Prod.snd)
  | [], S, _, _ => by rw [List.map_nil, List.append_nil]; exact Nat.le_refl _
  | q :: l, S, hs, hl => by
    rw [List.length_cons] at hl
    exact Nat.le_trans (zPw_fold hm (l := l) (zins_srt hs) (by rw [zins_len]; omega)) (zPw_ins hm (by omega) hs)
theorem zPw_low : ∀ (m : List Nat) (l : List (Nat × Nat)), zlow m → (l.map Prod.fst).Pairwise (· < ·) → (∀ q ∈ l, zprime q.1 ∧ 1 ≤ q.2) → (∀ b, m.head? = some b → ∀ q ∈ l, b ≤ q.1) → zPw m (l.map Prod.snd) ≤ zprod l
  | [], l, _, _, h2, _ => zprod_pos h2
  | b :: m, [], _, _, _, _ => Nat.le_refl 1
  | b :: m, (p, e) :: l, hm, h1, h2, h3 => by
    rw [List.map_cons, List.pairwise_cons] at h1
    have hbp := h3 b rfl (p, e) List.mem_cons_self
    have hp := (h2 (p, e) List.mem_cons_self).1
    have ih := zPw_low m l (by cases m with | nil => trivial | cons b' m => exact hm.2) h1.2 (fun q hq => h2 q (List.mem_cons_of_mem _ hq)) (fun b' hb' q hq => by
      cases m with
      | nil => cases hb'
      | cons b2 m =>
        cases hb'
        have := h1.1 q.1 (List.mem_map_of_mem hq)
        exact hm.1 q.1 (h2 q (List.mem_cons_of_mem _ hq)).1 (by have this : p < q.1 := this; omega))
    show b ^ e * zPw m (l.map Prod.snd) ≤ p ^ e * zprod l
    exact Nat.mul_le_mul (Nat.pow_le_pow_left hbp e) ih
theorem zten_le : zten.Pairwise (· ≤ ·) := by unfold zten; decide
theorem zshp_bd {n : Nat} {l : List (Nat × Nat)} (hn : n ≤ 999999999) (hG : zGood n l) : zPw zten (zshp l) ≤ n := by
  have h9 := zGood_nine hG (by omega)
  refine Nat.le_trans (zPw_fold zten_le (l := l) List.Pairwise.nil (by show 0 + l.length ≤ 10; omega)) ?_
  have := zPw_low zten l zlow_10 hG.1 hG.2.1 (fun b hb q hq => by cases hb; exact (hG.2.1 q hq).1.1)
  rw [hG.2.2] at this
  exact this
theorem zten_pr : ∀ p ∈ zten, zprime p := by
  have key : ∀ p : Nat, 2 ≤ p → (∀ d, d < p + 1 → d ∣ p → d = 1 ∨ d = p) → zprime p := fun p h2 h => ⟨h2, fun d hd => h d (by have := Nat.le_of_dvd (by omega) hd; omega) hd⟩
  intro p hp
  unfold zten at hp
  simp only [List.mem_cons, List.not_mem_nil, or_false] at hp
  rcases hp with rfl | rfl | rfl | rfl | rfl | rfl | rfl | rfl | rfl | rfl <;> exact key _ (by decide) (by decide)
theorem zPw_good : ∀ {m S : List Nat}, m.Pairwise (· < ·) → (∀ p ∈ m, zprime p) → (∀ e ∈ S, 1 ≤ e) → zGood (zPw m S) (m.zip S)
  | [], S, _, _, _ => ⟨by rw [List.zip_nil_left]; exact List.Pairwise.nil, fun q hq => (by rw [List.zip_nil_left] at hq; cases hq), rfl⟩
  | p :: m, [], _, _, _ => ⟨List.Pairwise.nil, fun q hq => (by cases hq), rfl⟩
  | p :: m, e :: S, h1, h2, h3 => by
    rw [List.pairwise_cons] at h1
    obtain ⟨g1, g2, g3⟩ := zPw_good (m := m) (S := S) h1.2 (fun q hq => h2 q (List.mem_cons_of_mem _ hq)) (fun q hq => h3 q (List.mem_cons_of_mem _ hq))
    refine ⟨?_, fun q hq => ?_, ?_⟩
    · rw [List.zip_cons_cons, List.map_cons, List.pairwise_cons]
      refine ⟨fun y hy => ?_, g1⟩
      obtain ⟨q, hq, rfl⟩ := List.mem_map.mp hy
      exact h1.1 q.1 (List.of_mem_zip hq).1
    · rw [List.zip_cons_cons] at hq
      rcases List.mem_cons.mp hq with z | z
      · subst z; exact ⟨h2 p List.mem_cons_self, h3 e List.mem_cons_self⟩
      · exact g2 q z
    · rw [List.zip_cons_cons, zprod_cons, g3]; rfl
theorem zten_lt : zten.Pairwise (· < ·) := by unfold zten; decide
theorem zPw_inj {S T : List Nat} (hS : ∀ e ∈ S, 1 ≤ e) (hT : ∀ e ∈ T, 1 ≤ e) (lS : S.length ≤ 10) (lT : T.length ≤ 10) (h : zPw zten S = zPw zten T) : S = T := by
  have g1 := zPw_good zten_lt zten_pr hS
  have g2 := zPw_good zten_lt zten_pr hT
  rw [h] at g1
  have e := zGood_uniq g1 g2
  have e1 : (zten.zip S).map Prod.snd = S := List.map_snd_zip (by show S.length ≤ 10; exact lS)
  have e2 : (zten.zip T).map Prod.snd = T := List.map_snd_zip (by show T.length ≤ 10; exact lT)
  rw [← e1, ← e2, e]
/-! the model's number -/
def zM32 (S : List Nat) : Nat := S.foldl (fun s e => 32 * s + e) 0
theorem zM32_add {S : List Nat} {e : Nat} : zM32 (S ++ [e]) = 32 * zM32 S + e := by
  unfold zM32
  rw [List.foldl_append]; rfl
theorem zM32_inj : ∀ (n : Nat) {S T : List Nat}, S.length ≤ n → (∀ e ∈ S, 1 ≤ e ∧ e ≤ 31) → (∀ e ∈ T, 1 ≤ e ∧ e ≤ 31) → zM32 S = zM32 T → S = T := by
  intro n
  induction n with
  | zero =>
    intro S T hl hS hT h
    have : S = [] := List.length_eq_zero_iff.mp (by omega)
    subst this
    rcases List.eq_nil_or_concat T with z | ⟨T', e, z⟩
    · exact z.symm
    · rw [List.concat_eq_append] at z
      subst z
      rw [zM32_add] at h
      have := hT e (by simp)
      have h : 0 = _ := h
      omega
  | succ n ih =>
    intro S T hl hS hT h
    rcases List.eq_nil_or_concat S with z | ⟨S', a, z⟩
    · subst z
      rcases List.eq_nil_or_concat T with z | ⟨T', e, z⟩
      · exact z.symm
      · rw [List.concat_eq_append] at z
        subst z
        rw [zM32_add] at h
        have := hT e (by simp)
        have h : 0 = _ := h
        omega
    · rw [List.concat_eq_append] at z
      subst z
      rcases List.eq_nil_or_concat T with z | ⟨T', e, z⟩
      · subst z
        rw [zM32_add] at h
        have := hS a (by simp)
        have h : _ = 0 := h
        omega
      · rw [List.concat_eq_append] at z
        subst z
        rw [zM32_add, zM32_add] at h
        have h1 := hS a (by simp)
        have h2 := hT e (by simp)
        have e1 : a = e := by omega
        subst e1
        rw [ih (S := S') (T := T') (by rw [List.length_append] at hl; simp at hl; omega) (fun x hx => hS x (by simp [hx])) (fun x hx => hT x (by simp [hx])) (by omega)]
/-- the times k, then k - 1, and so on -/
def zdnl (l : List (Nat × Nat)) : Nat → List Nat
  | 0 => []
  | k + 1 => (l.map Prod.snd).filter (fun e => e = k + 1) ++ zdnl l k
theorem zdnl_le {l : List (Nat × Nat)} : ∀ {k x : Nat}, x ∈ zdnl l k → x ≤ k
  | 0, x, h => by cases h
  | k + 1, x, h => by
    rcases List.mem_append.mp h with z | z
    · rw [List.mem_filter] at z
      have := of_decide_eq_true z.2
      omega
    · have := zdnl_le z; omega
theorem zdnl_add {l : List (Nat × Nat)} {q : Nat × Nat} : ∀ {k : Nat}, (q.2 ≤ k → 1 ≤ q.2 → zdnl (l ++ [q]) k = zins q.2 (zdnl l k)) ∧ (k < q.2 → zdnl (l ++ [q]) k = zdnl l k)
  | 0 => ⟨fun h1 h2 => by omega, fun _ => rfl⟩
  | k + 1 => by
    have ih := zdnl_add (l := l) (q := q) (k := k)
    have ef : ((l ++ [q]).map Prod.snd).filter (fun e => e = k + 1) = (l.map Prod.snd).filter (fun e => e = k + 1) ++ [q.2].filter (fun e => e = k + 1) := by
      rw [List.map_append, List.filter_append]; rfl
    have hA : ∀ x ∈ (l.map Prod.snd).filter (fun e => decide (e = k + 1)), x = k + 1 := fun x hx => by
      rw [List.mem_filter] at hx
      exact of_decide_eq_true hx.2
    refine ⟨fun h1 h2 => ?_, fun h => ?_⟩
    · show ((l ++ [q]).map Prod.snd).filter (fun e => e = k + 1) ++ zdnl (l ++ [q]) k = zins q.2 ((l.map Prod.snd).filter (fun e => e = k + 1) ++ zdnl l k)
      rw [ef, zins_app (fun x hx => by rw [hA x hx]; exact h1)]
      by_cases z : q.2 = k + 1
      · rw [ih.2 (by omega), zins_lt (fun x hx => by have := zdnl_le hx; omega), List.filter_cons_of_pos (by simp [z]), List.filter_nil, List.append_assoc]; rfl
      · rw [ih.1 (by omega) h2, List.filter_cons_of_neg (by simp [z]), List.filter_nil, List.append_nil]
    · show ((l ++ [q]).map Prod.snd).filter (fun e => e = k + 1) ++ zdnl (l ++ [q]) k = (l.map Prod.snd).filter (fun e => e = k + 1) ++ zdnl l k
      rw [ef, ih.2 (by omega), List.filter_cons_of_neg (by simp; omega), List.filter_nil, List.append_nil]
theorem zdnl_nil : ∀ {k : Nat}, zdnl [] k = []
  | 0 => rfl
  | k + 1 => by show [] ++ zdnl [] k = []; rw [zdnl_nil]; rfl
theorem zdnl_shp {k : Nat} : ∀ (n : Nat) {l : List (Nat × Nat)}, l.length ≤ n → (∀ q ∈ l, 1 ≤ q.2 ∧ q.2 ≤ k) → zdnl l k = zshp l := by
  intro n
  induction n with
  | zero =>
    intro l hl h
    have : l = [] := List.length_eq_zero_iff.mp (by omega)
    subst this
    exact zdnl_nil
  | succ n ih =>
    intro l hl h
    rcases List.eq_nil_or_concat l with z | ⟨l', q, z⟩
    · subst z; exact zdnl_nil
    · rw [List.concat_eq_append] at z
      subst z
      have hq := h q (by simp)
      rw [zdnl_add.1 hq.2 hq.1, zshp_add, ih (by rw [List.length_append] at hl; simp at hl; omega) (fun r hr => h r (by simp [hr]))]
