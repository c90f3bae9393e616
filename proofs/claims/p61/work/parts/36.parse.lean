/-! what the class reads in the law's text -/
theorem zend_at {P : Nat → Bool} {N e : Nat} : ∀ {c p : Nat}, p + c = e → e ≤ N → (∀ i, p ≤ i → i < e → P i = true) → (e = N ∨ P e = false) → zend P N p = e
  | 0, p, hc, hN, _, h2 => by
    have : p = e := by omega
    subst this
    rcases h2 with h2 | h2
    · exact zend_n (by omega)
    · exact zend_f h2
  | c + 1, p, hc, hN, h1, h2 => by
    rw [zend_t (by omega) (h1 p (Nat.le_refl p) (by omega))]
    exact zend_at (c := c) (by omega) hN (fun i a b => h1 i (by omega) b) h2
section ZP
variable {T : Nat → Int} {N p q e : Nat}
theorem zqq_at (h : q = p ∨ (q = p + 1 ∧ T p = 32)) (hq : q < N) (h3 : T q ≠ 10 ∧ T q ≠ 32) : zqq T N p = q := by
  have hf : zbl T q = false := decide_eq_false (by omega)
  rcases h with h | h
  · subst h; exact zend_f hf
  · obtain ⟨h, h2⟩ := h
    show zend (zbl T) N p = q
    rw [zend_t (by omega) (decide_eq_true (Or.inr h2)), ← h]
    exact zend_f hf
theorem ztk_word (h : q = p ∨ (q = p + 1 ∧ T p = 32)) (hl : ∀ i, q ≤ i → i < e → 97 ≤ T i ∧ T i ≤ 122) (he : q < e ∧ e ≤ q + 8 ∧ e < N) (h2 : T e < 97) : zkd T N p = 1 ∧ znx T N p = e ∧ zwd T N p = zlt2 T q (e - q) := by
  have hq := hl q (Nat.le_refl q) he.1
  have e1 := zqq_at (T := T) (N := N) h (by omega) (by omega)
  have e2 : zle2 T N p = e := by
    show zend (zlr T) N (zqq T N p) = e
    rw [e1]
    exact zend_at (c := e - q) (by omega) (by omega) (fun i a b => decide_eq_true (hl i a b)) (Or.inr (decide_eq_false (by omega)))
  unfold zkd znx zwd
  rw [e1, e2, if_neg (by omega), if_pos he.1, if_pos he.2.1, if_neg (by omega), if_pos he.1]
  exact ⟨rfl, rfl, rfl⟩
theorem ztk_num (h : q = p ∨ (q = p + 1 ∧ T p = 32)) (hl : ∀ i, q ≤ i → i < e → 48 ≤ T i ∧ T i ≤ 57) (he : q < e ∧ e ≤ q + 9 ∧ e < N) (h2 : 57 < T e) : zkd T N p = 2 ∧ znx T N p = e ∧ znm T N p = zdg T q (e - q) := by
  have hq := hl q (Nat.le_refl q) he.1
  have e1 := zqq_at (T := T) (N := N) h (by omega) (by omega)
  have e2 : zle2 T N p = q := by
    show zend (zlr T) N (zqq T N p) = q
    rw [e1]
    exact zend_f (decide_eq_false (by omega))
  have e3 : zde2 T N p = e := by
    show zend (zdi T) N (zqq T N p) = e
    rw [e1]
    exact zend_at (c := e - q) (by omega) (by omega) (fun i a b => decide_eq_true (hl i a b)) (Or.inr (decide_eq_false (by omega)))
  unfold zkd znx znm
  rw [e1, e2, e3, if_neg (by omega), if_neg (by omega), if_pos he.1, if_pos he.2.1, if_neg (by omega), if_neg (by omega), if_pos he.1]
  exact ⟨rfl, rfl, rfl⟩
theorem ztk_sign (hp : p < N) (h : T p = 59) : zkd T N p = 3 ∧ znx T N p = p + 1 := by
  have e1 := zqq_at (T := T) (N := N) (q := p) (Or.inl rfl) hp (by omega)
  have e2 : zle2 T N p = p := by
    show zend (zlr T) N (zqq T N p) = p
    rw [e1]
    exact zend_f (decide_eq_false (by omega))
  have e3 : zde2 T N p = p := by
    show zend (zdi T) N (zqq T N p) = p
    rw [e1]
    exact zend_f (decide_eq_false (by omega))
  unfold zkd znx
  rw [e1, e2, e3, if_neg (by omega), if_neg (by omega), if_neg (by omega), if_pos h, if_neg (by omega), if_neg (by omega), if_neg (by omega)]
  exact ⟨rfl, rfl⟩
theorem ztk_end : zkd T N N = 0 := zkd_0.mpr (by show N ≤ zend (zbl T) N N; rw [zend_n (Nat.le_refl N)]; exact Nat.le_refl N)
/-- l stands at p -/
def zSgm (T : Nat → Int) (N p : Nat) (l : List Int) : Prop := p + l.length ≤ N ∧ ∀ k : Nat, k < l.length → T (p + k) = l.getD k 0
theorem zSgm.l {a b : List Int} (h : zSgm T N p (a ++ b)) : zSgm T N p a := by
  have hl : (a ++ b).length = a.length + b.length := List.length_append
  refine ⟨by have := h.1; omega, fun k hk => ?_⟩
  rw [h.2 k (by omega), zgetD_l hk]
theorem zSgm.r {a b : List Int} (h : zSgm T N p (a ++ b)) : zSgm T N (p + a.length) b := by
  have hl : (a ++ b).length = a.length + b.length := List.length_append
  refine ⟨by have := h.1; omega, fun k hk => ?_⟩
  have := h.2 (a.length + k) (by omega)
  rw [zgetD_a (by omega), show a.length + k - a.length = k by omega] at this
  rw [Nat.add_assoc]
  exact this
theorem zlt2_cg {T' : Nat → Int} {q' : Nat} : ∀ {k : Nat}, (∀ i, i < k → T (q + i) = T' (q' + i)) → zlt2 T q k = zlt2 T' q' k
  | 0, _ => rfl
  | k + 1, h => by
    show (T (q + k) - 96) :: zlt2 T q k = (T' (q' + k) - 96) :: zlt2 T' q' k
    rw [h k (by omega), zlt2_cg (fun i hi => h i (by omega))]
theorem zdg_cg {T' : Nat → Int} {q' : Nat} : ∀ {k : Nat}, (∀ i, i < k → T (q + i) = T' (q' + i)) → zdg T q k = zdg T' q' k
  | 0, _ => rfl
  | k + 1, h => by
    show zdg T q k * 10 + (T (q + k) - 48) = zdg T' q' k * 10 + (T' (q' + k) - 48)
    rw [h k (by omega), zdg_cg (fun i hi => h i (by omega))]
/-- a word's letters -/
def zrvw (l : List Int) : List Int := zlt2 (fun j => l.getD j 0) 0 l.length
theorem zSgm.wd {l : List Int} (h : zSgm T N p l) : zlt2 T p l.length = zrvw l := zlt2_cg (T' := fun j => l.getD j 0) (q' := 0) (fun i hi => by rw [h.2 i hi, Nat.zero_add])
theorem zdec_d {n : Nat} (h : n < 10000) : (∀ k : Nat, k < (zdec n).length → 48 ≤ (zdec n).getD k 0 ∧ (zdec n).getD k 0 ≤ 57) ∧ zdg (fun j => (zdec n).getD j 0) 0 (zdec n).length = n ∧ 0 < (zdec n).length := by
  have d2 : ∀ m : Nat, m < 100 → (∀ k : Nat, k < (zdec2 m).length → 48 ≤ (zdec2 m).getD k 0 ∧ (zdec2 m).getD k 0 ≤ 57) ∧ zdg (fun j => (zdec2 m).getD j 0) 0 (zdec2 m).length = m ∧ 0 < (zdec2 m).length := by
    intro m hm
    unfold zdec2
    by_cases h1 : m < 10
    · rw [if_pos h1]
      refine ⟨fun k hk => ?_, ?_, Nat.succ_pos _⟩
      · have : k = 0 := by have : k < 1 := hk; omega
        subst this
        show 48 ≤ 48 + (m : Int) ∧ 48 + (m : Int) ≤ 57
        omega
      · show (0 : Int) * 10 + (48 + (m : Int) - 48) = m
        omega
    · rw [if_neg h1]
      refine ⟨fun k hk => ?_, ?_, Nat.succ_pos _⟩
      · have : k = 0 ∨ k = 1 := by have : k < 2 := hk; omega
        rcases this with rfl | rfl
        · show 48 ≤ 48 + ((m / 10 : Nat) : Int) ∧ 48 + ((m / 10 : Nat) : Int) ≤ 57
          omega
        · show 48 ≤ 48 + ((m % 10 : Nat) : Int) ∧ 48 + ((m % 10 : Nat) : Int) ≤ 57
          omega
      · show ((0 : Int) * 10 + (48 + ((m / 10 : Nat) : Int) - 48)) * 10 + (48 + ((m % 10 : Nat) : Int) - 48) = m
        omega
  unfold zdec
  by_cases h1 : n < 100
  · rw [if_pos h1]; exact d2 n h1
  rw [if_neg h1]
  obtain ⟨a1, a2, a3⟩ := d2 (n / 100) (by omega)
  have hl : ∀ x y : Int, (zdec2 (n / 100) ++ [x, y]).length = (zdec2 (n / 100)).length + 2 := fun x y => List.length_append
  refine ⟨fun k hk => ?_, ?_, by rw [hl]; omega⟩
  · rw [hl] at hk
    by_cases z : k < (zdec2 (n / 100)).length
    · rw [zgetD_l z]; exact a1 k z
    · rw [zgetD_a (by omega)]
      have : k - (zdec2 (n / 100)).length = 0 ∨ k - (zdec2 (n / 100)).length = 1 := by omega
      rcases this with y | y
      · rw [y]
        show 48 ≤ 48 + ((n % 100 / 10 : Nat) : Int) ∧ 48 + ((n % 100 / 10 : Nat) : Int) ≤ 57
        omega
      · rw [y]
        show 48 ≤ 48 + ((n % 100 % 10 : Nat) : Int) ∧ 48 + ((n % 100 % 10 : Nat) : Int) ≤ 57
        omega
  · rw [hl]
    generalize hL : (zdec2 (n / 100)).length = l at *
    have g0 : ∀ k : Nat, k < l → (zdec2 (n / 100) ++ [48 + ((n % 100 / 10 : Nat) : Int), 48 + ((n % 100 % 10 : Nat) : Int)]).getD (0 + k) 0 = (zdec2 (n / 100)).getD (0 + k) 0 := fun k hk => by rw [Nat.zero_add]; exact zgetD_l (by omega)
    show (zdg (fun j => (zdec2 (n / 100) ++ [48 + ((n % 100 / 10 : Nat) : Int), 48 + ((n % 100 % 10 : Nat) : Int)]).getD j 0) 0 l * 10 + ((zdec2 (n / 100) ++ [48 + ((n % 100 / 10 : Nat) : Int), 48 + ((n % 100 % 10 : Nat) : Int)]).getD (0 + l) 0 - 48)) * 10 + ((zdec2 (n / 100) ++ [48 + ((n % 100 / 10 : Nat) : Int), 48 + ((n % 100 % 10 : Nat) : Int)]).getD (0 + (l + 1)) 0 - 48) = n
    rw [zdg_cg (T' := fun j => (zdec2 (n / 100)).getD j 0) (q' := 0) g0, a2, zgetD_a (by omega), zgetD_a (by omega), hL, show 0 + l - l = 0 by omega, show 0 + (l + 1) - l = 1 by omega]
    show (((n / 100 : Nat) : Int) * 10 + (48 + ((n % 100 / 10 : Nat) : Int) - 48)) * 10 + (48 + ((n % 100 % 10 : Nat) : Int) - 48) = n
    omega
theorem zSgm.nm {n : Nat} (h : zSgm T N p (zdec n)) (hn : n < 10000) : (∀ i, p ≤ i → i < p + (zdec n).length → 48 ≤ T i ∧ T i ≤ 57) ∧ zdg T p (zdec n).length = n := by
  have g := zdec_d hn
  refine ⟨fun i a b => ?_, ?_⟩
  · obtain ⟨k, rfl⟩ : ∃ k, i = p + k := ⟨i - p, by omega⟩
    rw [h.2 k (by omega)]
    exact g.1 k (by omega)
  · rw [zdg_cg (T' := fun j => (zdec n).getD j 0) (q' := 0) (fun i hi => by rw [h.2 i hi, Nat.zero_add])]
    exact g.2.1
theorem zSgm.lt {l : List Int} (h : zSgm T N p l) (hl : l.all (fun x => decide (97 ≤ x ∧ x ≤ 122)) = true) : ∀ i, p ≤ i → i < p + l.length → 97 ≤ T i ∧ T i ≤ 122 := fun i a b => by
  obtain ⟨k, rfl⟩ : ∃ k, i = p + k := ⟨i - p, by omega⟩
  rw [h.2 k (by omega), List.getD_eq_getElem?_getD, List.getElem?_eq_getElem (show k < l.length by omega)]
  exact of_decide_eq_true (List.all_eq_true.mp hl _ (List.getElem_mem _))
/-- a word, a blank before it or none, then c -/
theorem ztk_w {l : List Int} {c : Int} (h : zSgm T N q (l ++ [c])) (hb : q = p ∨ (q = p + 1 ∧ T p = 32)) (hl : l.all (fun x => decide (97 ≤ x ∧ x ≤ 122)) = true) (h8 : 0 < l.length ∧ l.length ≤ 8) (hc : c < 97) : zkd T N p = 1 ∧ znx T N p = q + l.length ∧ zwd T N p = zrvw l := by
  have e1 : T (q + l.length) = c := by have := h.r.2 0 (Nat.succ_pos _); exact this
  have h1 := h.1
  rw [List.length_append] at h1
  have h1 : q + (l.length + 1) ≤ N := h1
  have := ztk_word (N := N) (e := q + l.length) hb (h.l.lt hl) (by omega) (by omega)
  rw [show q + l.length - q = l.length by omega, h.l.wd] at this
  exact this
theorem ztk_n {n : Nat} {c : Int} (h : zSgm T N q (zdec n ++ [c])) (hb : q = p ∨ (q = p + 1 ∧ T p = 32)) (hn : n < 10000) (hc : 57 < c) : zkd T N p = 2 ∧ znx T N p = q + (zdec n).length ∧ znm T N p = n := by
  have e1 : T (q + (zdec n).length) = c := by have := h.r.2 0 (Nat.succ_pos _); exact this
  have h1 := h.1
  rw [List.length_append] at h1
  have h1 : q + ((zdec n).length + 1) ≤ N := h1
  have h4 := zdec_l4 hn
  have h0 := (zdec_d hn).2.2
  have := ztk_num (N := N) (e := q + (zdec n).length) hb (h.l.nm hn).1 (by omega) (by omega)
  rw [show q + (zdec n).length - q = (zdec n).length by omega, (h.l.nm hn).2] at this
  exact this
/-- the law's line -/
theorem zln_L {s : zSta} {la : Nat} (hla : la < 4) (h : zSgm T N p (zstrs.getD 8 [] ++ zstrs.getD (4 + la) [] ++ [59])) : zkd T N p ≠ 0 ∧ zln T N s p = ((0, 0), p + (4 + (zstrs.getD (4 + la) []).length + 1), ((s.1.1, s.1.2.1, s.1.2.2.1, (la : Int)), s.2)) := by
  have hw : (List.range 4).all (fun i => (zstrs.getD (4 + i) []).all (fun x => decide (97 ≤ x ∧ x ≤ 122)) && decide (0 < (zstrs.getD (4 + i) []).length ∧ (zstrs.getD (4 + i) []).length ≤ 8) && decide (zkw (zrvw (zstrs.getD (4 + i) [])) = 4 + (i : Int))) = true := by decide +kernel
  have hw := List.all_eq_true.mp hw la (List.mem_range.mpr hla)
  simp only [Bool.and_eq_true, decide_eq_true_eq] at hw
  obtain ⟨⟨w1, w2⟩, w3⟩ := hw
  generalize zstrs.getD (4 + la) [] = X at *
  rw [List.append_assoc] at h
  have a1 := h.l
  have a2 := h.r
  have t1 := ztk_w (T := T) (N := N) (p := p) (q := p) (l := [108, 97, 119]) (c := 32) a1 (Or.inl rfl) (by decide) (by decide) (by decide)
  have b32 : T (p + 3) = 32 := a1.2 3 (by decide)
  have t2 := ztk_w (p := p + 3) (q := p + 4) a2 (Or.inr ⟨rfl, b32⟩) w1 w2 (by decide)
  have a3 := a2.r
  have b59 : T (p + 4 + X.length) = 59 := a3.2 0 (by decide)
  have n59 : p + 4 + X.length < N := by have : p + 4 + X.length + 1 ≤ N := a3.1; omega
  have t3 := ztk_sign n59 b59
  have k3 : zwd T N p = zW3 := t1.2.2.trans (by decide +kernel)
  have e1 : znx T N p = p + 3 := t1.2.1
  refine ⟨by rw [t1.1]; decide, ?_⟩
  unfold zln
  have q0 : zkw (zwd T N p) = 3 := by rw [k3]; decide +kernel
  rw [if_neg (by rw [q0]; omega), if_neg (by rw [q0]; omega), if_neg (by rw [q0]; omega), if_pos ⟨t1.1, q0⟩]
  unfold zlnL
  rw [e1, t2.2.1, t2.2.2, w3]
  rw [zfsf_t (show zisLw T N (p + 3) = true from decide_eq_true ⟨t2.1, by rw [t2.2.2, w3]; omega⟩), zfsf_t (show zisSg T N (p + 4 + X.length) = true from decide_eq_true t3.1)]
  rw [t3.2, show (4 : Int) + (la : Int) - 4 = (la : Int) by omega, show p + 4 + X.length + 1 = p + (4 + X.length + 1) by omega]
  rfl
/-- the bound's line -/
theorem zln_B {s : zSta} {n : Nat} (hn : 1 ≤ n ∧ n < 10000) (h : zSgm T N p ([98, 111, 117, 110, 100, 32] ++ (zdec n ++ [59]))) : zkd T N p ≠ 0 ∧ zln T N s p = ((0, 0), p + (6 + (zdec n).length + 1), ((s.1.1, (n : Int), s.1.2.2), s.2)) := by
  have a1 := h.l
  have a2 := h.r
  have t1 := ztk_w (T := T) (N := N) (p := p) (q := p) (l := [98, 111, 117, 110, 100]) (c := 32) a1 (Or.inl rfl) (by decide) (by decide) (by decide)
  have b32 : T (p + 5) = 32 := a1.2 5 (by decide)
  have t2 := ztk_n (p := p + 5) (q := p + 6) a2 (Or.inr ⟨rfl, b32⟩) hn.2 (by decide)
  have a3 := a2.r
  have b59 : T (p + 6 + (zdec n).length) = 59 := a3.2 0 (by decide)
  have n59 : p + 6 + (zdec n).length < N := by have : p + 6 + (zdec n).length + 1 ≤ N := a3.1; omega
  have t3 := ztk_sign n59 b59
  have q0 : zkw (zwd T N p) = 1 := by rw [show zwd T N p = zW1 from t1.2.2.trans (by decide +kernel)]; decide +kernel
  have e1 : znx T N p = p + 5 := t1.2.1
  refine ⟨by rw [t1.1]; decide, ?_⟩
  unfold zln
  rw [if_neg (by rw [q0]; omega), if_pos ⟨t1.1, q0⟩]
  unfold zlnB
  rw [e1, t2.2.1, t2.2.2]
  rw [zfsf_t (show zisNu T N (p + 5) = true from decide_eq_true t2.1), zfsf_t (show zrgn T N (p + 5) 999999999 = true from decide_eq_true (by rw [t2.2.2]; omega)), zfsf_t (show zisSg T N (p + 6 + (zdec n).length) = true from decide_eq_true t3.1)]
  rw [t3.2, show p + 6 + (zdec n).length + 1 = p + (6 + (zdec n).length + 1) by omega]
  rfl
/-- the steps' line -/
theorem zln_S {s : zSta} {n : Nat} (hn : 1 ≤ n ∧ n ≤ 100) (h : zSgm T N p ([115, 116, 101, 112, 115, 32] ++ (zdec n ++ [59]))) : zkd T N p ≠ 0 ∧ zln T N s p = ((0, 0), p + (6 + (zdec n).length + 1), ((s.1.1, s.1.2.1, (n : Int), s.1.2.2.2), s.2)) := by
  have a1 := h.l
  have a2 := h.r
  have t1 := ztk_w (T := T) (N := N) (p := p) (q := p) (l := [115, 116, 101, 112, 115]) (c := 32) a1 (Or.inl rfl) (by decide) (by decide) (by decide)
  have b32 : T (p + 5) = 32 := a1.2 5 (by decide)
  have t2 := ztk_n (p := p + 5) (q := p + 6) a2 (Or.inr ⟨rfl, b32⟩) (by omega) (by decide)
  have a3 := a2.r
  have b59 : T (p + 6 + (zdec n).length) = 59 := a3.2 0 (by decide)
  have n59 : p + 6 + (zdec n).length < N := by have : p + 6 + (zdec n).length + 1 ≤ N := a3.1; omega
  have t3 := ztk_sign n59 b59
  have q0 : zkw (zwd T N p) = 2 := by rw [show zwd T N p = zW2 from t1.2.2.trans (by decide +kernel)]; decide +kernel
  have e1 : znx T N p = p + 5 := t1.2.1
  refine ⟨by rw [t1.1]; decide, ?_⟩
  unfold zln
  rw [if_neg (by rw [q0]; omega), if_neg (by rw [q0]; omega), if_pos ⟨t1.1, q0⟩]
  unfold zlnB
  rw [e1, t2.2.1, t2.2.2]
  rw [zfsf_t (show zisNu T N (p + 5) = true from decide_eq_true t2.1), zfsf_t (show zrgn T N (p + 5) 100 = true from decide_eq_true (by rw [t2.2.2]; omega)), zfsf_t (show zisSg T N (p + 6 + (zdec n).length) = true from decide_eq_true t3.1)]
  rw [t3.2, show p + 6 + (zdec n).length + 1 = p + (6 + (zdec n).length + 1) by omega]
  rfl
/-- a row's line -/
theorem zln_R {s : zSta} {i n : Nat} (hi : i < 6) (hs : s.1.1.length < 6) (hm : [(i : Int) + 1] ∉ s.2) (hn : 1 ≤ n ∧ n < 10000) (h : zSgm T N p (zDrw i n)) : zkd T N p ≠ 0 ∧ zln T N s p = ((0, 0), p + (zDrw i n).length, ((s.1.1 ++ [(n : Int)], s.1.2), s.2 ++ [[(i : Int) + 1]])) := by
  have hlen : (zDrw i n).length = 6 + (zdec n).length + 1 := by
    unfold zDrw
    simp only [List.length_append, show (zstrs.getD 11 []).length = 4 from rfl, show ([97 + (i : Int)] : List Int).length = 1 from rfl, show ([32] : List Int).length = 1 from rfl, show ([59] : List Int).length = 1 from rfl]
  rw [hlen]
  have h' : zSgm T N p ([114, 111, 119, 32] ++ ([97 + (i : Int), 32] ++ (zdec n ++ [59]))) := by
    have : zDrw i n = [114, 111, 119, 32] ++ ([97 + (i : Int), 32] ++ (zdec n ++ [59])) := by
      unfold zDrw
      rw [show zstrs.getD 11 [] = [114, 111, 119, 32] by decide +kernel]
      simp only [List.append_assoc, List.cons_append, List.nil_append]
    rw [← this]; exact h
  have a1 := h'.l
  have a2 := h'.r.l
  have a3 := h'.r.r
  have t1 := ztk_w (T := T) (N := N) (p := p) (q := p) (l := [114, 111, 119]) (c := 32) a1 (Or.inl rfl) (by decide) (by decide) (by decide)
  have b32 : T (p + 3) = 32 := a1.2 3 (by decide)
  have t2 := ztk_w (T := T) (N := N) (p := p + 3) (q := p + 4) (l := [97 + (i : Int)]) (c := 32) a2 (Or.inr ⟨rfl, b32⟩) (by simp only [List.all_cons, List.all_nil, Bool.and_true, decide_eq_true_eq]; omega) ⟨Nat.succ_pos _, by show 1 ≤ 8; decide⟩ (by decide)
  have c32 : T (p + 5) = 32 := a2.2 1 (by show 1 < 2; decide)
  have t3 := ztk_n (p := p + 5) (q := p + 6) a3 (Or.inr ⟨rfl, c32⟩) hn.2 (by decide)
  have a4 := a3.r
  have b59 : T (p + 6 + (zdec n).length) = 59 := a4.2 0 (by decide)
  have n59 : p + 6 + (zdec n).length < N := by have : p + 6 + (zdec n).length + 1 ≤ N := a4.1; omega
  have t4 := ztk_sign n59 b59
  have q0 : zkw (zwd T N p) = 0 := by rw [show zwd T N p = zW0 from t1.2.2.trans (by decide +kernel)]; decide +kernel
  have e1 : znx T N p = p + 3 := t1.2.1
  have e2 : znx T N (p + 3) = p + 5 := t2.2.1
  have e3 : zwd T N (p + 3) = [(i : Int) + 1] := t2.2.2.trans (by show [97 + (i : Int) - 96] = _; rw [show 97 + (i : Int) - 96 = (i : Int) + 1 by omega])
  have q1 : zkw [(i : Int) + 1] = -1 := by
    have : (List.range 6).all (fun i => decide (zkw [(i : Int) + 1] = -1)) = true := by decide +kernel
    exact of_decide_eq_true (List.all_eq_true.mp this i (List.mem_range.mpr hi))
  refine ⟨by rw [t1.1]; decide, ?_⟩
  unfold zln
  rw [if_pos ⟨t1.1, q0⟩]
  unfold zlnR
  rw [e1, e2, e3, t3.2.1, t3.2.2]
  rw [zfsf_t (show decide (s.1.1.length < 6) = true from decide_eq_true hs), zfsf_t (show zisNm T N (p + 3) = true from decide_eq_true ⟨t2.1, by rw [e3]; exact q1⟩), zfsf_t (show decide ([(i : Int) + 1] ∉ s.2) = true from decide_eq_true hm), zfsf_t (show zisNu T N (p + 5) = true from decide_eq_true t3.1), zfsf_t (show zrgn T N (p + 5) 999999999 = true from decide_eq_true (by rw [t3.2.2]; omega)), zfsf_t (show zisSg T N (p + 6 + (zdec n).length) = true from decide_eq_true t4.1)]
  rw [t4.2, show p + 6 + (zdec n).length + 1 = p + (6 + (zdec n).length + 1) by omega]
  rfl
end ZP
/-- the rows' starts and names, up to k -/
def zDss (w : zWt) : Nat → List Int
  | 0 => []
  | k + 1 => zDss w k ++ [(zDat w k : Int)]
def zDnm : Nat → List (List Int)
  | 0 => []
  | k + 1 => zDnm k ++ [[(k : Int) + 1]]
theorem zDss_l {w : zWt} {k : Nat} : (zDss w k).length = k := by
  induction k with
  | zero => rfl
  | succ k ih => show (zDss w k ++ [(zDat w k : Int)]).length = _; rw [List.length_append, ih]; rfl
theorem zDnm_m {k i : Nat} (h : k ≤ i) : [(i : Int) + 1] ∉ zDnm k := by
  induction k with
  | zero => intro q; cases q
  | succ k ih =>
    intro q
    rcases List.mem_append.mp q with q | q
    · exact ih (by omega) q
    · have := List.mem_singleton.mp q
      have : (i : Int) + 1 = (k : Int) + 1 := by injection this
      omega
theorem zps_1 {T : Nat → Int} {N F p p' : Nat} {s s' : zSta} (h : zkd T N p ≠ 0 ∧ zln T N s p = ((0, 0), p', s')) : zps T N (F + 1) s p = zps T N F s' p' := by
  show (if zkd T N p = 0 then ((0, 0), s) else if (zln T N s p).1.1 = 0 then zps T N F (zln T N s p).2.2 (zln T N s p).2.1 else ((zln T N s p).1, s)) = _
  rw [if_neg h.1, h.2, if_pos rfl]
theorem zps_rows {w : zWt} {T : Nat → Int} {N : Nat} {b st la : Int} : ∀ (m k F p : Nat), k + m ≤ 4 → m ≤ F → zSgm T N p (List.flatten ((List.range m).map fun j => zDrw (k + j) (zDat w (k + j)))) → p + (List.flatten ((List.range m).map fun j => zDrw (k + j) (zDat w (k + j)))).length = N → zps T N (F + 1) ((zDss w k, b, st, la), zDnm k) p = ((0, 0), ((zDss w (k + m), b, st, la), zDnm (k + m)))
  | 0, k, F, p, h4, hF, hs, hN => by
    have : p = N := hN
    subst this
    show (if zkd T p p = 0 then _ else _) = _
    rw [if_pos ztk_end]; rfl
  | m + 1, k, 0, p, h4, hF, hs, hN => absurd hF (by omega)
  | m + 1, k, F + 1, p, h4, hF, hs, hN => by
    have e : List.flatten ((List.range (m + 1)).map fun j => zDrw (k + j) (zDat w (k + j))) = zDrw k (zDat w k) ++ List.flatten ((List.range m).map fun j => zDrw (k + 1 + j) (zDat w (k + 1 + j))) := by
      rw [List.range_succ_eq_map, List.map_cons, List.flatten_cons, List.map_map]
      congr 2
      refine List.map_congr_left fun j _ => ?_
      show zDrw (k + (j + 1)) (zDat w (k + (j + 1))) = _
      rw [show k + (j + 1) = k + 1 + j by omega]
    rw [e] at hs hN
    rw [List.length_append] at hN
    have hl := @zDss_l w k
    rw [zps_1 (zln_R (i := k) (n := zDat w k) (by omega) (by show (zDss w k).length < 6; omega) (zDnm_m (Nat.le_refl k)) ⟨(zDat_r w k).1, zDat_t w k⟩ hs.l)]
    have := zps_rows (b := b) (st := st) (la := la) m (k + 1) F (p + (zDrw k (zDat w k)).length) (by omega) (by omega) hs.r (by omega)
    rw [show k + 1 + m = k + (m + 1) by omega] at this
    exact this
theorem zDrs_f {w : zWt} {k : Nat} : zDrs w k = List.flatten ((List.range k).map fun j => zDrw (0 + j) (zDat w (0 + j))) := by
  induction k with
  | zero => rfl
  | succ k ih =>
    show zDrs w k ++ zDrw k (zDat w k) = _
    rw [ih, List.range_succ, List.map_append, List.flatten_append]
    congr 1
    simp
theorem zps_D {w : zWt} {T : Nat → Int} (h : ∀ k : Nat, k < (zDtx w).length → T k = (zDtx w).getD k 0) : zps T (zDtx w).length ((zDtx w).length + 1) zS0 0 = ((0, 0), ((zDss w (zDro w), (zDbo w : Int), (zDst w : Int), (zDla w : Int)), zDnm (zDro w))) := by
  have hla := zDla_r w
  have hbo := zDbo_r w
  have hst := zDst_r w
  have hro := zDro_r w
  have h0 : zSgm T (zDtx w).length 0 (zDtx w) := ⟨by omega, fun k hk => by rw [Nat.zero_add]; exact h k hk⟩
  have e : zDtx w = (zstrs.getD 8 [] ++ zstrs.getD (4 + zDla w) [] ++ [59]) ++ (([98, 111, 117, 110, 100, 32] ++ (zdec (zDbo w) ++ [59])) ++ (([115, 116, 101, 112, 115, 32] ++ (zdec (zDst w) ++ [59])) ++ zDrs w (zDro w))) := by
    unfold zDtx zDhd
    rw [show zstrs.getD 9 [] = [59, 98, 111, 117, 110, 100, 32] by decide +kernel, show zstrs.getD 10 [] = [59, 115, 116, 101, 112, 115, 32] by decide +kernel]
    simp only [List.append_assoc, List.cons_append, List.nil_append]
  generalize hN : (zDtx w).length = N at *
  rw [e] at h0
  have hlen : N = (4 + (zstrs.getD (4 + zDla w) []).length + 1) + ((6 + (zdec (zDbo w)).length + 1) + ((6 + (zdec (zDst w)).length + 1) + (zDrs w (zDro w)).length)) := by
    rw [← hN, e]
    simp only [List.length_append, show (zstrs.getD 8 []).length = 4 from rfl, show ([59] : List Int).length = 1 from rfl, show ([98, 111, 117, 110, 100, 32] : List Int).length = 6 from rfl, show ([115, 116, 101, 112, 115, 32] : List Int).length = 6 from rfl]
    omega
  have g1 := h0.l
  have g2 := h0.r.l
  have g3 := h0.r.r.l
  have g4 := h0.r.r.r
  simp only [List.length_append, show (zstrs.getD 8 []).length = 4 from rfl, show ([59] : List Int).length = 1 from rfl, show ([98, 111, 117, 110, 100, 32] : List Int).length = 6 from rfl, show ([115, 116, 101, 112, 115, 32] : List Int).length = 6 from rfl] at g2 g3 g4
  obtain ⟨F, rfl⟩ : ∃ F, N = F + 3 := ⟨N - 3, by omega⟩
  rw [zps_1 (zln_L hla g1)]
  rw [zps_1 (zln_B ⟨by omega, zDbo_t w⟩ g2)]
  rw [zps_1 (zln_S (n := zDst w) (by omega) (by
    rw [Nat.add_assoc 6 (zdec (zDbo w)).length 1]
    exact g3))]
  rw [zDrs_f] at g4 hlen
  have := zps_rows (w := w) (T := T) (N := F + 3) (b := zDbo w) (st := zDst w) (la := zDla w) (zDro w) 0 F (0 + (4 + (zstrs.getD (4 + zDla w) []).length + 1) + (6 + (zdec (zDbo w)).length + 1) + (6 + (zdec (zDst w)).length + 1)) (by omega) (by omega) (by
    rw [Nat.add_assoc 6 (zdec (zDbo w)).length 1, Nat.add_assoc 6 (zdec (zDst w)).length 1]
    exact g4) (by omega)
  rw [show 0 + zDro w = zDro w from Nat.zero_add _] at this
  exact this
