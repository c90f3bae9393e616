/-! the model's factors: its two loops -/
theorem zq_ne {H : zHt} {a j x a' j' : Int} (h : ¬ (a' = a ∧ j' = j)) : zup H a j x a' j' = H a' j' := if_neg h
theorem zq_eq {H : zHt} {a j x : Int} : zup H a j x a j = x := if_pos ⟨rfl, rfl⟩
theorem zfm_85 {H0 H : zHt} {j x : Int} (h : zfm H0 H) : zfm H0 (zup H 85 j x) := fun a i h1 h2 h3 => by
  rw [zq_ne (fun q => h1 q.1)]; exact h a i h1 h2 h3
theorem zfm_86 {H0 H : zHt} {j x : Int} (h : zfm H0 H) : zfm H0 (zup H 86 j x) := fun a i h1 h2 h3 => by
  rw [zq_ne (fun q => h2 q.1)]; exact h a i h1 h2 h3
theorem zfm_81 {H0 H : zHt} {x : Int} (h : zfm H0 H) : zfm H0 (zup H 81 8 x) := fun a i h1 h2 h3 => by
  rw [zq_ne (fun q => h3 q)]; exact h a i h1 h2 h3
theorem zget_lt {l : List (Nat × Nat)} {i : Nat} {q : Nat × Nat} (h : l[i]? = some q) : i < l.length := by
  rcases Nat.lt_or_ge i l.length with z | z
  · exact z
  · rw [List.getElem?_eq_none z] at h; cases h
theorem zLst_A {H : zHt} {l : List (Nat × Nat)} {x : Int} (h : zLst H 81 8 85 86 l) : zLst (zup H 85 l.length x) 81 8 85 86 l := by
  refine ⟨by rw [zq_ne (fun q => absurd q.1 (by decide))]; exact h.1, fun i q hq => ?_⟩
  have hi := zget_lt hq
  rw [zq_ne (fun q => by have := q.2; omega), zq_ne (fun q => absurd q.1 (by decide))]
  exact h.2 i q hq
theorem zLst_B {H : zHt} {l : List (Nat × Nat)} {x : Int} (h : zLst H 81 8 85 86 l) : zLst (zup H 86 l.length x) 81 8 85 86 l := by
  refine ⟨by rw [zq_ne (fun q => absurd q.1 (by decide))]; exact h.1, fun i q hq => ?_⟩
  have hi := zget_lt hq
  rw [zq_ne (fun q => absurd q.1 (by decide)), zq_ne (fun q => by have := q.2; omega)]
  exact h.2 i q hq
theorem zLst_C {H : zHt} {l : List (Nat × Nat)} {p e : Nat} {x : Int} (h : zLst H 81 8 85 86 l) (h1 : H 85 l.length = p) (h2 : H 86 l.length = e) (hx : x = (l.length : Int) + 1) : zLst (zup H 81 8 x) 81 8 85 86 (l ++ [(p, e)]) := by
  refine ⟨by rw [zq_eq, hx, List.length_append]; simp, fun i q hq => ?_⟩
  rw [zq_ne (fun q => absurd q.1 (by decide)), zq_ne (fun q => absurd q.1 (by decide))]
  rcases Nat.lt_or_ge i l.length with z | z
  · rw [List.getElem?_append_left z] at hq
    exact h.2 i q hq
  · rw [List.getElem?_append_right z] at hq
    have hi : i - l.length = 0 := by
      rcases Nat.eq_zero_or_pos (i - l.length) with y | y
      · exact y
      · rw [List.getElem?_eq_none (by simp; omega)] at hq; cases hq
    rw [hi] at hq
    cases hq
    have : i = l.length := by omega
    subst this
    exact ⟨h1, h2⟩
theorem zlt_pow {p e : Nat} (hp : 2 ≤ p) : e < p ^ e := Nat.lt_of_lt_of_le Nat.lt_two_pow_self (Nat.pow_le_pow_left hp e)
theorem zle_mul {a b n : Nat} (h : n = a * b) (hb : 1 ≤ b) : a ≤ n := by rw [h]; exact Nat.le_mul_of_pos_right a hb
theorem zpart_e {l : List (Nat × Nat)} {p e left n : Nat} (hl : zPart l p) (hp : 2 ≤ p) (hle : 1 ≤ left) (hn : n = zprod l * p ^ e * left) : e < n ∧ left ≤ n ∧ zprod l * p ^ e ≤ n := by
  have h1 := zprod_pos hl.2.1
  have h2 := zlt_pow (e := e) hp
  have h3 : p ^ e ≤ zprod l * p ^ e := Nat.le_mul_of_pos_left _ h1
  have h4 := zle_mul hn hle
  have h5 : left ≤ n := by
    rw [hn]; exact Nat.le_mul_of_pos_left _ (by omega)
  exact ⟨by omega, h5, h4⟩
section M177
variable {w : zWt} {d n p : Nat} {H0 : zHt} {l : List (Nat × Nat)} {P : zHt → Prop}
theorem m177in (hp : zprime p) (hl : zPart l p) (hn : n ≤ 999999999) (hpb : p ≤ 999999999) : ∀ (left e : Nat) (H : zHt), n = zprod l * p ^ e * left → 1 ≤ left → zfm H0 H → zLst H 81 8 85 86 l → H 85 l.length = p → H 86 l.length = e → (p ∣ left ∨ 1 ≤ e) →
    (∀ (left' e' : Nat) (H' : zHt), ¬ p ∣ left' → 1 ≤ e' → 1 ≤ left' → n = zprod l * p ^ e' * left' → zfm H0 H' → zLst H' 81 8 85 86 (l ++ [(p, e')]) → zgo w d 177 9 [zR 81, zJ, zI left', zI ((if p = 2 then p + 1 else p + 2 : Nat) : Int)] [] H' (zQV P)) →
    zgo w d 177 49 [zR 81, zJ, zI left, zI p] [] H (zQV P) := by
  intro left
  induction left using Nat.strongRecOn with
  | ind left ih =>
    intro e H hne hl1 hf hL h85 h86 hpe hk
    have hp2 : 2 ≤ p := hp.1
    obtain ⟨b1, b2, b3⟩ := zpart_e hl hp2 hl1 hne
    have hc : H 81 8 = (l.length : Int) := hL.1
    refine x177_49 ⟨by omega, fun q => ?_, fun q => ?_⟩
    · rw [ztmod] at q
      have hnd : ¬ p ∣ left := fun z => q (by rw [Nat.mod_eq_zero_of_dvd z]; rfl)
      have he : 1 ≤ e := by
        rcases hpe with z | z
        · exact absurd z hnd
        · exact z
      have hlen : l.length ≤ 8 := zPart_len hl hp he hl1 hne (by omega)
      have hw : w32 (H 81 8 + 1) = (l.length : Int) + 1 := by rw [hc]; exact w32_id (by omega)
      have K := hk left e (zup H 81 8 (w32 (H 81 8 + 1))) hnd he hl1 hne (zfm_81 hf) (zLst_C hL h85 h86 hw)
      refine ⟨fun q2 => ?_, fun q2 => ?_⟩
      · rw [if_neg (by omega)] at K
        rw [show w32 ((p : Int) + 2) = ((p + 2 : Nat) : Int) from w32_id (by omega)]
        exact K
      · rw [if_pos (by omega)] at K
        rw [show w32 ((p : Int) + 1) = ((p + 1 : Nat) : Int) from w32_id (by omega)]
        exact K
    · rw [ztmod] at q
      have hd : p ∣ left := Nat.dvd_of_mod_eq_zero (by omega)
      obtain ⟨m, rfl⟩ := hd
      have hm : 1 ≤ m := by
        rcases Nat.eq_zero_or_pos m with z | z
        · subst z; omega
        · exact z
      have hne2 : n = zprod l * p ^ (e + 1) * m := by
        rw [hne, Nat.pow_succ, ← Nat.mul_assoc, Nat.mul_assoc (zprod l) (p ^ e) p]
      have hlen : l.length ≤ 8 := zPart_len (e := e + 1) hl hp (by omega) hm hne2 (by omega)
      refine ⟨by omega, ?_⟩
      rw [ztdiv, Nat.mul_div_cancel_left m (by omega), show w32 ((m : Nat) : Int) = ((m : Nat) : Int) from w32_id (by
        have : m ≤ p * m := Nat.le_mul_of_pos_left m (by omega)
        omega), hc, h86, show w32 ((e : Int) + 1) = ((e + 1 : Nat) : Int) from w32_id (by omega)]
      refine ih m ?_ (e + 1) _ hne2 hm (zfm_86 hf) (zLst_B hL) ?_ zq_eq (Or.inr (by omega)) hk
      · have : 2 * m ≤ p * m := Nat.mul_le_mul_right m hp2
        omega
      · rw [zq_ne (fun q => absurd q.1 (by decide))]; exact h85
theorem zfree_next {p left left' : Nat} (h2 : 2 ≤ p) (hodd : p = 2 ∨ p % 2 = 1) (hf : zfree p left) (hdv : left' ∣ left) (hnp : ¬ p ∣ left') : zfree (if p = 2 then p + 1 else p + 2) left' := by
  intro dd hd1 hd2 hdd
  rcases Nat.lt_or_ge dd p with z | z
  · exact hf dd hd1 z (Nat.dvd_trans hdd hdv)
  · rcases Nat.eq_or_lt_of_le z with y | y
    · exact hnp (y ▸ hdd)
    · by_cases hp2 : p = 2
      · rw [if_pos hp2] at hd2; omega
      · rw [if_neg hp2] at hd2
        have hd : dd = p + 1 := by omega
        have h2d : 2 ∣ dd := by omega
        exact hf 2 (by omega) (by omega) (Nat.dvd_trans (Nat.dvd_trans h2d hdd) hdv)
theorem zsq_lt {p : Nat} (h : p * p ≤ 999999999) : p ≤ 31622 := by
  rcases Nat.lt_or_ge 31622 p with z | z
  · have := Nat.mul_le_mul (show 31623 ≤ p from z) (show 31623 ≤ p from z)
    omega
  · exact z
theorem m177 (hn : n ≤ 999999999) : ∀ (k left p : Nat) (l : List (Nat × Nat)) (H : zHt), n + 3 ≤ p + k → p ≤ n + 2 → p ≤ 31625 → zfm H0 H → zPart l p → zLst H 81 8 85 86 l → n = zprod l * left → 1 ≤ left → zfree p left → 2 ≤ p → (p = 2 ∨ p % 2 = 1) → zgo w d 177 9 [zR 81, zJ, zI left, zI p] [] H (zQV (zFM H0 n)) := by
  intro k
  induction k with
  | zero =>
    intro left p l H hk hpn hp1 hf hl hL hne hl1 hfr h2 hodd
    omega
  | succ k ih =>
    intro left p l H hk hpn hp1 hf hl hL hne hl1 hfr h2 hodd
    have hc : H 81 8 = (l.length : Int) := hL.1
    have hz := zprod_pos hl.2.1
    have hleft : left ≤ n := by rw [hne]; exact Nat.le_mul_of_pos_left _ hz
    have e1 : w64 ((p : Int) * (p : Int)) = ((p * p : Nat) : Int) := by
      rw [← Int.natCast_mul]
      exact w64_id (by have := Nat.mul_le_mul hp1 hp1; omega)
    refine x177_9 ⟨fun q => ⟨fun q2 => ?_, fun q2 => ?_⟩, fun q => ⟨by omega, fun q2 => ?_, fun q2 => ?_⟩⟩
    · rw [e1] at q
      have hpr : zprime left := zfree_rest (by omega) hfr (by omega)
      have hpl : p ≤ left := by
        rcases Nat.lt_or_ge left p with z | z
        · exact absurd (Nat.dvd_refl left) (hfr left (by omega) z)
        · exact z
      have hll : zPart l left := ⟨hl.1, hl.2.1, fun q hq => by have := hl.2.2 q hq; omega⟩
      have hne2 : n = zprod l * left ^ 1 * 1 := by rw [Nat.pow_one, Nat.mul_one]; exact hne
      have hlen : l.length ≤ 8 := zPart_len hll hpr (Nat.le_refl 1) (Nat.le_refl 1) hne2 (by omega)
      have hG : zGood n (l ++ [(left, 1)]) := by
        have := zPart_app (p' := left + 1) hll hpr (Nat.le_refl 1) (by omega)
        exact ⟨this.1, this.2.1, by rw [zprod_app, Nat.pow_one]; exact hne.symm⟩
      refine ⟨by omega, zfm_81 (zfm_86 (zfm_85 hf)), ?_, ?_⟩
      · rw [zfac_eq hG]; exact hG
      · rw [zfac_eq hG, hc]
        exact zLst_C (zLst_B (zLst_A hL)) (by rw [zq_ne (fun q => absurd q.1 (by decide)), zq_eq]) zq_eq (w32_id (by omega))
    · have hl1' : left = 1 := by omega
      have hG : zGood n l := ⟨hl.1, hl.2.1, by rw [hne, hl1', Nat.mul_one]⟩
      exact ⟨hf, by rw [zfac_eq hG]; exact hG, by rw [zfac_eq hG]; exact hL⟩
    · rw [e1] at q
      rw [ztmod] at q2
      have hd : p ∣ left := Nat.dvd_of_mod_eq_zero (by omega)
      have hpr : zprime p := zfree_prime h2 hfr hd
      have hne2 : n = zprod l * p ^ 0 * left := by rw [Nat.pow_zero, Nat.mul_one]; exact hne
      have hpp := zsq_lt (show p * p ≤ 999999999 by omega)
      have h2p : 2 * p ≤ p * p := Nat.mul_le_mul_right p h2
      have hlen : l.length ≤ 8 := by
        obtain ⟨m, rfl⟩ := hd
        refine zPart_len (e := 1) (m := m) (n := n) hl hpr (Nat.le_refl 1) ?_ (by rw [Nat.pow_one, Nat.mul_assoc]; exact hne) (by omega)
        rcases Nat.eq_zero_or_pos m with z | z
        · subst z; omega
        · exact z
      refine ⟨by omega, ?_⟩
      rw [hc]
      refine m177in hpr hl hn (by omega) left 0 _ hne2 hl1 (zfm_86 (zfm_85 hf)) (zLst_B (zLst_A hL)) (by rw [zq_ne (fun q => absurd q.1 (by decide)), zq_eq]) zq_eq (Or.inl hd) ?_
      intro left' e' H' hnd he' hl1' hne' hf' hL'
      have hle : left = p ^ e' * left' := by
        have : zprod l * left = zprod l * (p ^ e' * left') := by rw [← hne, hne', Nat.mul_assoc]
        exact Nat.eq_of_mul_eq_mul_left hz this
      have hdv : left' ∣ left := ⟨p ^ e', by rw [hle, Nat.mul_comm]⟩
      refine ih left' _ (l ++ [(p, e')]) H' ?_ ?_ ?_ hf' (zPart_app hl hpr he' ?_) hL' (by rw [zprod_app]; exact hne') hl1' (zfree_next h2 hodd hfr hdv hnd) ?_ ?_
      · split <;> omega
      · split <;> omega
      · split <;> omega
      · split <;> omega
      · split <;> omega
      · split
        · right; omega
        · right; omega
    · rw [e1] at q
      rw [ztmod] at q2
      have hnd : ¬ p ∣ left := fun z => q2 (by rw [Nat.mod_eq_zero_of_dvd z]; rfl)
      have hpp := zsq_lt (show p * p ≤ 999999999 by omega)
      have h2p : 2 * p ≤ p * p := Nat.mul_le_mul_right p h2
      have hfn := zfree_next h2 hodd hfr (Nat.dvd_refl left) hnd
      refine ⟨fun q3 => ?_, fun q3 => ?_⟩
      · rw [if_neg (by omega)] at hfn
        rw [show w32 ((p : Int) + 2) = ((p + 2 : Nat) : Int) from w32_id (by omega)]
        exact ih left (p + 2) l H (by omega) (by omega) (by omega) hf ⟨hl.1, hl.2.1, fun q hq => by have := hl.2.2 q hq; omega⟩ hL hne hl1 hfn (by omega) (by omega)
      · rw [if_pos (by omega)] at hfn
        rw [show w32 ((p : Int) + 1) = ((p + 1 : Nat) : Int) from w32_id (by omega)]
        exact ih left (p + 1) l H (by omega) (by omega) (by omega) hf ⟨hl.1, hl.2.1, fun q hq => by have := hl.2.2 q hq; omega⟩ hL hne hl1 hfn (by omega) (by omega)
end M177
/-- the model's factors: their list lies in its two arrays -/
theorem c177 {w : zWt} {H : zHt} {n d : Nat} (h1 : 1 ≤ n) (hn : n ≤ 999999999) : ∃ H', zFM H n H' ∧ ∀ K : zHt → Prop, zclV w d 177 [zR 81, zI n] H K = K H' := by
  refine zclV_ex (x177_0 ?_)
  exact m177 hn (n + 1) n 2 [] _ (by omega) (by omega) (by omega) (zfm_81 (fun _ _ _ _ _ => rfl)) ⟨List.Pairwise.nil, (fun q hq => nomatch hq), (fun q hq => nomatch hq)⟩ ⟨zq_eq, fun i q hq => by simp at hq⟩ (by simp [zprod]) h1 (fun d h1 h2 => by omega) (by omega) (Or.inl rfl)
