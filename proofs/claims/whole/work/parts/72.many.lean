/-! no number here has more than 1400 divisors: a search over falling lists -/
def zDs (S : List Nat) : Nat := S.foldr (fun e s => (e + 1) * s) 1
def zse (f : Nat → Nat → Nat) (p : Nat) : Nat → Nat → Nat
  | 0, b => f 0 b
  | e + 1, b => max (zse f p e b) (if p ^ (e + 1) ≤ b then (e + 2) * f (e + 1) (b / p ^ (e + 1)) else 0)
def zsrc : List Nat → Nat → Nat → Nat
  | [] => fun _ _ => 1
  | p :: ps => zse (zsrc ps) p
theorem zse_ok {f : Nat → Nat → Nat} {p b : Nat} : ∀ {cap e : Nat}, e ≤ cap → p ^ e ≤ b → (e + 1) * f e (b / p ^ e) ≤ zse f p cap b
  | 0, e, he, _ => by
    have : e = 0 := by omega
    subst this
    show (0 + 1) * f 0 (b / p ^ 0) ≤ f 0 b
    rw [Nat.pow_zero, Nat.div_one]; omega
  | cap + 1, e, he, hb => by
    show _ ≤ max (zse f p cap b) (if p ^ (cap + 1) ≤ b then (cap + 2) * f (cap + 1) (b / p ^ (cap + 1)) else 0)
    by_cases z : e = cap + 1
    · subst z
      rw [if_pos hb]
      exact Nat.le_max_right _ _
    · exact Nat.le_trans (zse_ok (by omega) hb) (Nat.le_max_left _ _)
theorem zsrc_1 : ∀ {ps : List Nat} {cap b : Nat}, 1 ≤ b → 1 ≤ zsrc ps cap b
  | [], _, _, _ => Nat.le_refl _
  | p :: ps, cap, b, h => by
    have := zse_ok (f := zsrc ps) (p := p) (b := b) (cap := cap) (e := 0) (Nat.zero_le _) (by rw [Nat.pow_zero]; exact h)
    rw [Nat.pow_zero, Nat.div_one] at this
    have h1 := zsrc_1 (ps := ps) (cap := 0) (b := b) h
    show 1 ≤ zse (zsrc ps) p cap b
    omega
theorem zsrc_ok : ∀ {ps S : List Nat} {cap b : Nat}, S.Pairwise (· ≥ ·) → (∀ e ∈ S, e ≤ cap) → (∀ p ∈ ps, 1 ≤ p) → S.length ≤ ps.length → zPw ps S ≤ b → zDs S ≤ zsrc ps cap b
  | ps, [], cap, b, _, _, hp, _, hb => by
    have : 1 ≤ zPw ps [] := zPw_pos hp
    exact zsrc_1 (by omega)
  | [], e :: S, _, _, _, _, _, hl, _ => by simp at hl
  | p :: ps, e :: S, cap, b, hs, hc, hp, hl, hb => by
    rw [List.pairwise_cons] at hs
    have hpe : 1 ≤ p ^ e := Nat.pow_pos (hp p List.mem_cons_self)
    have hb : p ^ e * zPw ps S ≤ b := hb
    have hz : 1 ≤ zPw ps S := zPw_pos (fun q hq => hp q (List.mem_cons_of_mem _ hq))
    have ih := zsrc_ok (ps := ps) (S := S) (cap := e) (b := b / p ^ e) hs.2 (fun x hx => hs.1 x hx) (fun q hq => hp q (List.mem_cons_of_mem _ hq)) (by simp only [List.length_cons] at hl; omega) ((Nat.le_div_iff_mul_le hpe).mpr (by rw [Nat.mul_comm]; exact hb))
    have h2 := zse_ok (f := zsrc ps) (p := p) (b := b) (cap := cap) (e := e) (hc e List.mem_cons_self) (Nat.le_trans (Nat.le_mul_of_pos_right _ hz) hb)
    show (e + 1) * zDs S ≤ zse (zsrc ps) p cap b
    exact Nat.le_trans (Nat.mul_le_mul_left _ ih) h2
theorem zsrc_v : zsrc zten 29 999999999 ≤ 1400 := by decide +kernel
theorem zDs_ins {e : Nat} : ∀ {S : List Nat}, zDs (zins e S) = (e + 1) * zDs S
  | [] => rfl
  | x :: S => by
    unfold zins
    split
    · rfl
    · show (x + 1) * zDs (zins e S) = (e + 1) * ((x + 1) * zDs S)
      rw [zDs_ins, Nat.mul_left_comm]
theorem zDs_fold : ∀ {l : List (Nat × Nat)} {S : List Nat}, zDs (l.foldl (fun S q => zins q.2 S) S) = zDs (l.map Prod.snd) * zDs S
  | [], S => by show zDs S = 1 * zDs S; rw [Nat.one_mul]
  | q :: l, S => by
    show zDs (l.foldl (fun S q => zins q.2 S) (zins q.2 S)) = (q.2 + 1) * zDs (l.map Prod.snd) * zDs S
    rw [zDs_fold, zDs_ins, Nat.mul_left_comm, Nat.mul_assoc]
theorem zdivs_1400 {n : Nat} {l : List (Nat × Nat)} (hn : n ≤ 999999999) (hG : zGood n l) : zDs (l.map Prod.snd) ≤ 1400 := by
  have h9 := zGood_nine hG (by omega)
  have e : zDs (zshp l) = zDs (l.map Prod.snd) := by
    unfold zshp
    rw [zDs_fold]; show _ * 1 = _; rw [Nat.mul_one]
  rw [← e]
  refine Nat.le_trans (zsrc_ok (ps := zten) (S := zshp l) (cap := 29) (b := 999999999) zshp_srt (fun x hx => ?_) (fun p hp => by have := (zten_pr p hp).1; omega) (by rw [zshp_len]; show _ ≤ 10; omega) (Nat.le_trans (zshp_bd hn hG) hn)) zsrc_v
  obtain ⟨q, hq, rfl⟩ := zshp_mem hx
  exact (zexp_bd hn hG hq).2
