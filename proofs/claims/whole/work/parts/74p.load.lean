/-! the case load -/
def zS0 : zSta := (([], 100000, 30, 0), [])
theorem zS0_ok : zOkS zS0 := ⟨⟨Nat.zero_le _, fun k hk => absurd hk (Nat.not_lt_zero k), by decide, by decide, by decide, by decide⟩, rfl, fun l hl => by cases hl⟩
theorem zps_ok {T : Nat → Int} {N : Nat} : ∀ {F p : Nat} {s : zSta}, p ≤ N → zOkS s → (zps T N F s p).1.1 = 0 → zOkS (zps T N F s p).2
  | 0, p, s, _, hs, _ => hs
  | F + 1, p, s, hp, hs, h => by
    unfold zps at h ⊢
    split at h
    · rename_i z
      rw [if_pos z]; exact hs
    · rename_i z
      rw [if_neg z]
      split at h
      · rename_i y
        rw [if_pos y]
        obtain ⟨o1, o2, o3⟩ := zln_ok hp hs y
        exact zps_ok o2 o1 h
      · rename_i y
        exact absurd h y
theorem zln_pos {T : Nat → Int} {N p : Nat} {s : zSta} : 0 ≤ (zln T N s p).1.1 := by
  unfold zln
  split
  · refine zfsf_pos (fun c hc => ?_)
    unfold zlnR at hc
    simp only [List.mem_cons, List.not_mem_nil, or_false] at hc
    rcases hc with rfl | rfl | rfl | rfl | rfl | rfl <;> (first | exact (by decide : (2 : Int) ≠ 0) | exact (by decide : (3 : Int) ≠ 0) | exact (by decide : (4 : Int) ≠ 0) | exact (by decide : (5 : Int) ≠ 0) | exact (by decide : (0 : Int) < 2) | exact (by decide : (0 : Int) < 3) | exact (by decide : (0 : Int) < 4) | exact (by decide : (0 : Int) < 5))
  · split
    · refine zfsf_pos (fun c hc => ?_)
      unfold zlnB at hc
      simp only [List.mem_cons, List.not_mem_nil, or_false] at hc
      rcases hc with rfl | rfl | rfl <;> (first | exact (by decide : (2 : Int) ≠ 0) | exact (by decide : (3 : Int) ≠ 0) | exact (by decide : (4 : Int) ≠ 0) | exact (by decide : (5 : Int) ≠ 0) | exact (by decide : (0 : Int) < 2) | exact (by decide : (0 : Int) < 3) | exact (by decide : (0 : Int) < 4) | exact (by decide : (0 : Int) < 5))
    · split
      · refine zfsf_pos (fun c hc => ?_)
        unfold zlnB at hc
        simp only [List.mem_cons, List.not_mem_nil, or_false] at hc
        rcases hc with rfl | rfl | rfl <;> (first | exact (by decide : (2 : Int) ≠ 0) | exact (by decide : (3 : Int) ≠ 0) | exact (by decide : (4 : Int) ≠ 0) | exact (by decide : (5 : Int) ≠ 0) | exact (by decide : (0 : Int) < 2) | exact (by decide : (0 : Int) < 3) | exact (by decide : (0 : Int) < 4) | exact (by decide : (0 : Int) < 5))
      · split
        · refine zfsf_pos (fun c hc => ?_)
          unfold zlnL at hc
          simp only [List.mem_cons, List.not_mem_nil, or_false] at hc
          rcases hc with rfl | rfl <;> (first | exact (by decide : (2 : Int) ≠ 0) | exact (by decide : (3 : Int) ≠ 0) | exact (by decide : (4 : Int) ≠ 0) | exact (by decide : (5 : Int) ≠ 0) | exact (by decide : (0 : Int) < 2) | exact (by decide : (0 : Int) < 3) | exact (by decide : (0 : Int) < 4) | exact (by decide : (0 : Int) < 5))
        · refine zfsf_pos (fun c hc => ?_)
          simp only [List.mem_cons, List.not_mem_nil, or_false] at hc
          subst hc; (first | exact (by decide : (2 : Int) ≠ 0) | exact (by decide : (3 : Int) ≠ 0) | exact (by decide : (4 : Int) ≠ 0) | exact (by decide : (5 : Int) ≠ 0) | exact (by decide : (0 : Int) < 2) | exact (by decide : (0 : Int) < 3) | exact (by decide : (0 : Int) < 4) | exact (by decide : (0 : Int) < 5))
theorem zps_pos {T : Nat → Int} {N : Nat} : ∀ {F p : Nat} {s : zSta}, 0 ≤ (zps T N F s p).1.1
  | 0, _, _ => Int.le_refl 0
  | F + 1, p, s => by
    unfold zps
    split
    · exact Int.le_refl 0
    · split
      · exact zps_pos
      · exact zln_pos
section Z74p
variable {w : zWt} {d : Nat} {H : zHt} {T : Nat → Int} {N : Nat}
/-- the model's text -/
theorem c277l {H0 : zHt} {r : (Int × Int) × zSta} {Q : zV → zHt → Prop} {K : Int → zHt → Prop} (hQ : Q = zQI K) (hK : ∀ H', zfMM H0 H' → ((r.1.1 = 0 ∧ H' 81 34 = 0 ∧ zDeM H' 83 0 r.2.1) ∨ (r.1.1 ≠ 0 ∧ H' 81 34 = r.1.1 ∧ H' 81 35 = r.1.2)) → zgo w (d + 7) 277 107 [zR 81, zJ, zJ] [] H' Q) : ∀ (F p : Nat) (s : zSta) (H : zHt), N + 1 ≤ p + F → p ≤ N → zOkS s → zMc T N H → zfMM H0 H → H 81 34 = 0 → zMt H T N p → zDeM H 83 0 s.1 → zNmM H s.2 → zps T N F s p = r → zgo w (d + 7) 277 86 [zR 81, zJ, zJ] [] H Q := by
  subst hQ
  intro F
  induction F with
  | zero => intro p s H hF hp; omega
  | succ F ih =>
    intro p s H hF hp hs hc hf h4 ht hD hn hr
    have hr : (if zkd T N p = 0 then ((0, 0), s) else if (zln T N s p).1.1 = 0 then zps T N F (zln T N s p).2.2 (zln T N s p).2.1 else ((zln T N s p).1, s)) = r := hr
    refine x277_86 ?_
    rw [c280, if_pos h4]
    refine ⟨fun q => absurd q (by decide), fun _ => ?_⟩
    rw [ht.2.1]
    refine ⟨fun q => ?_, fun q => ?_⟩
    · rw [if_pos q] at hr
      exact hK H hf (Or.inl ⟨by rw [← hr], h4, by rw [← hr]; exact hD⟩)
    · rw [if_neg q] at hr
      obtain ⟨H1, ⟨f1, r1⟩, e1⟩ := c281 (w := w) (d := d) (H := H) hp hs hc hD hn ⟨fun c hc => (by cases hc), Or.inl ⟨rfl, h4, ht⟩⟩
      rw [e1]
      have f2 := zfMM_tr hf f1
      rcases r1 with ⟨a, b, c, e, g⟩ | ⟨a, b, c⟩
      · rw [if_pos a] at hr
        obtain ⟨o1, o2, o3⟩ := zln_ok hp hs a
        exact ih _ _ H1 (by omega) o2 o1 (zMc_MM f1 hc) f2 b c e g hr
      · rw [if_neg a] at hr
        refine x277_86 ?_
        rw [c280, if_neg (by rw [b]; exact a)]
        exact ⟨fun _ => hK H1 f2 (Or.inr ⟨by rw [← hr]; exact a, by rw [← hr]; exact b, by rw [← hr]; exact c⟩), fun q => absurd rfl q⟩
/-- a desk taken over -/
theorem c277c {Q : zV → zHt → Prop} {K : Int → zHt → Prop} (hQ : Q = zQI K) {H0 : zHt} (hK : ∀ H', (∀ a j : Int, a ≠ 82 → H' a j = H0 a j) → (∀ k : Nat, k < 10 → H' 82 k = H0 83 k) → K (H' 82 6) (zup H' 81 5 0)) : ∀ (c k : Nat) (H : zHt), k + c = 10 → (∀ a j : Int, a ≠ 82 → H a j = H0 a j) → (∀ i : Nat, i < k → H 82 i = H0 83 i) → zgo w (d + 7) 277 155 [zR 81, zJ, zI (k : Int)] [] H Q := by
  subst hQ
  intro c
  induction c with
  | zero =>
    intro k H hk hf hT
    exact x277_155 ⟨fun _ => hK H hf (fun i hi => hT i (by omega)), fun q => by omega⟩
  | succ c ih =>
    intro k H hk hf hT
    refine x277_155 ⟨fun q => by omega, fun _ => ⟨by omega, ?_⟩⟩
    rw [zi1 (by omega)]
    refine ih (k + 1) _ (by omega) (fun a j q => by rw [zq_ne (fun z => q z.1)]; exact hf a j q) (fun i hi => ?_)
    by_cases z : i = k
    · subst z
      rw [zq_eq]; exact hf 83 i (by omega)
    · rw [zq_ne (by omega)]; exact hT i (by omega)
theorem c277z {Q : zV → zHt → Prop} {K : Int → zHt → Prop} (hQ : Q = zQI K) {H0 : zHt} (hK : ∀ H', (∀ a j : Int, a ≠ 83 → H' a j = H0 a j) → (∀ k : Nat, k < 10 → H' 83 k = 0) → zclV w (d + 6) 278 [zR 81] (zup (zup H' 83 7 100000) 83 8 30) (fun H2 => zgo w (d + 7) 277 86 [zR 81, zJ, zJ] [] H2 (zQI K))) : ∀ (c k : Nat) (H : zHt), k + c = 10 → (∀ a j : Int, a ≠ 83 → H a j = H0 a j) → (∀ i : Nat, i < k → H 83 i = 0) → zgo w (d + 7) 277 45 [zR 81, zJ, zI (k : Int)] [] H Q := by
  subst hQ
  intro c
  induction c with
  | zero =>
    intro k H hk hf hT
    exact x277_45 ⟨fun _ => hK H hf (fun i hi => hT i (by omega)), fun q => by omega⟩
  | succ c ih =>
    intro k H hk hf hT
    refine x277_45 ⟨fun q => by omega, fun _ => ⟨by omega, ?_⟩⟩
    rw [zi1 (by omega)]
    refine ih (k + 1) _ (by omega) (fun a j q => by rw [zq_ne (fun z => q z.1)]; exact hf a j q) (fun i hi => ?_)
    by_cases z : i = k
    · subst z
      rw [zq_eq]
    · rw [zq_ne (by omega)]; exact hT i (by omega)
/-- what the model may change -/
def zfLM (H H' : zHt) : Prop := ∀ a j : Int, a ≠ 82 → a ≠ 83 → a ≠ 100 → ¬ (a = 81 ∧ (j = 0 ∨ j = 1 ∨ j = 5 ∨ 31 ≤ j ∧ j ≤ 41)) → H' a j = H a j
theorem b277 {v : Int} {r : (Int × Int) × zSta} (hW : ∀ k : Nat, k < 8 → H 101 k = zkwm.getD k 0) (hT : zTxM H T v.toNat) (hv : 0 ≤ v ∧ v ≤ H 81 31) (hr : zps T v.toNat (v.toNat + 1) zS0 0 = r) : zclI w (d + 7) 277 [zR 81, zI v] H (fun x H' => zfLM H H' ∧ H' 81 31 = 0 ∧ ((r.1.1 = 0 ∧ x = (r.2.1.1.length : Int) ∧ H' 81 0 = 0 ∧ H' 81 32 = 0 ∧ H' 81 33 = -1 ∧ H' 81 5 = 0 ∧ zDeM H' 82 0 r.2.1) ∨ (r.1.1 ≠ 0 ∧ x = -1 ∧ H' 81 0 = 9 ∧ H' 81 32 = r.1.1 ∧ H' 81 33 = r.1.2 ∧ H' 81 5 = H 81 5 ∧ ∀ j, H' 82 j = H 82 j))) := by
  obtain ⟨n, rfl⟩ : ∃ n : Nat, v = n := ⟨v.toNat, by omega⟩
  rw [Int.toNat_natCast] at hT hr
  refine x277_0 ?_
  rw [c173, if_pos hv]
  refine ⟨fun q => absurd q (by decide), fun _ => ?_⟩
  rw [c174_0]
  refine ⟨fun _ => ?_, fun q => absurd q (by decide)⟩
  have F0 : ∀ a j : Int, ¬ (a = 81 ∧ (j = 0 ∨ j = 1 ∨ j = 40 ∨ j = 37 ∨ j = 34)) → zup (zup (zup (zst H 0) 81 40 (n : Int)) 81 37 0) 81 34 0 a j = H a j := fun a j q => by
    rw [zq_ne (by omega), zq_ne (by omega), zq_ne (by omega), zst_at (by omega)]
  have a0 : zup (zup (zup (zst H 0) 81 40 (n : Int)) 81 37 0) 81 34 0 81 0 = 0 := by
    rw [zq_ne (by omega), zq_ne (by omega), zq_ne (by omega)]; exact zst_0
  have a40 : zup (zup (zup (zst H 0) 81 40 (n : Int)) 81 37 0) 81 34 0 81 40 = (n : Int) := by
    rw [zq_ne (by omega), zq_ne (by omega), zq_eq]
  have a37 : zup (zup (zup (zst H 0) 81 40 (n : Int)) 81 37 0) 81 34 0 81 37 = ((0 : Nat) : Int) := by
    rw [zq_ne (by omega), zq_eq]; rfl
  have a34 : zup (zup (zup (zst H 0) 81 40 (n : Int)) 81 37 0) 81 34 0 81 34 = 0 := zq_eq
  generalize zup (zup (zup (zst H 0) 81 40 (n : Int)) 81 37 0) 81 34 0 = H1 at F0 a0 a40 a37 a34 ⊢
  have T1 : zTxM H1 T n := ⟨hT.1, fun k hk => by rw [F0 99 k (by omega)]; exact hT.2 k hk⟩
  refine c277z (H0 := H1) rfl (fun H2 f2 z2 => ?_) 10 0 H1 rfl (fun _ _ _ => rfl) (fun i hi => absurd hi (Nat.not_lt_zero i))
  have g2 : ∀ a j : Int, a ≠ 83 → zup (zup H2 83 7 100000) 83 8 30 a j = H1 a j := fun a j q => by
    rw [zq_ne (fun z => q z.1), zq_ne (fun z => q z.1)]; exact f2 a j q
  have D2 : zDeM (zup (zup H2 83 7 100000) 83 8 30) 83 0 zS0.1 := by
    refine ⟨?_, ?_, ?_, ?_, fun k hk => absurd hk (Nat.not_lt_zero k)⟩
    · rw [Int.zero_add, zq_ne (by omega), zq_ne (by omega)]; exact z2 6 (by omega)
    · rw [Int.zero_add, zq_ne (by omega), zq_eq]; rfl
    · rw [Int.zero_add, zq_eq]; rfl
    · rw [Int.zero_add, zq_ne (by omega), zq_ne (by omega)]; exact z2 9 (by omega)
  generalize zup (zup H2 83 7 100000) 83 8 30 = H3 at g2 D2 ⊢
  have c3 : zMc T n H3 := ⟨⟨T1.1, fun k hk => by rw [g2 99 k (by omega)]; exact T1.2 k hk⟩, (g2 81 40 (by omega)).trans a40, fun k hk => by rw [g2 101 k (by omega), F0 101 k (by omega)]; exact hW k hk⟩
  obtain ⟨H4, ⟨f4, t4⟩, e4⟩ := c278 (w := w) (d := d + 4) (H := H3) (p := 0) (Nat.zero_le n) c3.1 c3.2.1 ((g2 81 37 (by omega)).trans a37)
  rw [e4]
  have m4 : zfMM H3 H4 := zfMM_T zfMM_rfl (zfT_81 f4)
  refine c277l (H0 := H3) (r := r) rfl (fun H5 f5 r5 => ?_) (n + 1) 0 zS0 H4 (by omega) (Nat.zero_le n) zS0_ok (zMc_MM m4 c3) m4 (by rw [f4 81 34 (by omega), g2 81 34 (by omega)]; exact a34) t4 (zDeM_f (fun j => f4 83 j (by omega)) D2) (fun k hk => absurd hk (Nat.not_lt_zero k)) hr
  have f15 : ∀ a j : Int, a ≠ 83 → a ≠ 100 → ¬ (a = 81 ∧ (34 ≤ j ∧ j ≤ 39 ∨ j = 41)) → H5 a j = H1 a j := fun a j q1 q2 q3 => (f5 a j q1 q2 q3).trans (g2 a j q1)
  rcases r5 with ⟨r0, r4, rD⟩ | ⟨r0, r4, r6⟩
  · refine x277_107 ⟨fun _ => ⟨fun _ => ?_, fun q => by omega⟩, fun q => by omega⟩
    rw [r4]
    refine c277c (H0 := zup (zup (zup H5 81 31 0) 81 32 0) 81 33 (-1)) rfl (fun H6 f6 z6 => ?_) 10 0 _ rfl (fun _ _ _ => rfl) (fun i hi => absurd hi (Nat.not_lt_zero i))
    have z7 : ∀ k : Nat, k < 10 → H6 82 k = H5 83 k := fun k hk => by rw [z6 k hk, zq_ne (by omega), zq_ne (by omega), zq_ne (by omega)]
    obtain ⟨d1, d2, d3, d4, d5⟩ := rD
    simp only [Int.zero_add] at d1 d2 d3 d4 d5
    refine ⟨fun a j q1 q2 q3 q4 => ?_, ?_, Or.inl ⟨r0, ?_, ?_, ?_, ?_, zq_eq, ?_⟩⟩
    · rw [zq_ne (by omega), f6 a j q1, zq_ne (by omega), zq_ne (by omega), zq_ne (by omega), f15 a j q2 q3 (by omega), F0 a j (by omega)]
    · rw [zq_ne (by omega), f6 81 31 (by omega), zq_ne (by omega), zq_ne (by omega), zq_eq]
    · rw [show (6 : Int) = ((6 : Nat) : Int) from rfl, z7 6 (by omega)]; exact d1
    · rw [zq_ne (by omega), f6 81 0 (by omega), zq_ne (by omega), zq_ne (by omega), zq_ne (by omega), f15 81 0 (by omega) (by omega) (by omega)]; exact a0
    · rw [zq_ne (by omega), f6 81 32 (by omega), zq_ne (by omega), zq_eq]
    · rw [zq_ne (by omega), f6 81 33 (by omega), zq_eq]
    · have hle : r.2.1.1.length ≤ 6 := by
        have := zps_ok (T := T) (N := n) (F := n + 1) (Nat.zero_le n) zS0_ok (by rw [hr]; exact r0)
        rw [hr] at this; exact this.1.1
      refine ⟨?_, ?_, ?_, ?_, fun k hk => ?_⟩
      · rw [Int.zero_add, zq_ne (by omega)]; exact (z7 6 (by omega)).trans d1
      · rw [Int.zero_add, zq_ne (by omega)]; exact (z7 7 (by omega)).trans d2
      · rw [Int.zero_add, zq_ne (by omega)]; exact (z7 8 (by omega)).trans d3
      · rw [Int.zero_add, zq_ne (by omega)]; exact (z7 9 (by omega)).trans d4
      · rw [Int.zero_add, zq_ne (by omega), z7 k (by omega)]; exact d5 k hk
  · have hps : 0 < r.1.1 := by
      have h0 : 0 ≤ (zps T n (n + 1) zS0 0).1.1 := zps_pos
      rw [hr] at h0; omega
    refine x277_107 ⟨fun q => by omega, fun _ => ⟨fun q => by omega, fun _ => ?_⟩⟩
    rw [c178]
    refine ⟨fun a j q1 q2 q3 q4 => ?_, ?_, Or.inr ⟨r0, rfl, zq_eq, ?_, ?_, ?_, fun j => ?_⟩⟩
    · rw [zq_ne (by omega), zq_ne (by omega), zq_ne (by omega), zq_ne (by omega), f15 a j q2 q3 (by omega), F0 a j (by omega)]
    · rw [zq_ne (by omega), zq_ne (by omega), zq_ne (by omega), zq_eq]
    · rw [zq_ne (by omega), zq_ne (by omega), zq_eq]; exact r4
    · rw [zq_ne (by omega), zq_eq]; exact r6
    · rw [zq_ne (by omega), zq_ne (by omega), zq_ne (by omega), zq_ne (by omega), f15 81 5 (by omega) (by omega) (by omega), F0 81 5 (by omega)]
    · rw [zq_ne (by omega), zq_ne (by omega), zq_ne (by omega), zq_ne (by omega), f15 82 j (by omega) (by omega) (by omega), F0 82 j (by omega)]
/-- what the class may change -/
def zfLC (H H' : zHt) : Prop := ∀ a j : Int, ¬ (a = 32 ∧ 11 ≤ j ∧ j ≤ 14) → a ≠ 33 → a ≠ 35 → ¬ (40 ≤ a ∧ a ≤ 43) → ¬ ((69 ≤ a ∧ a ≤ 79) ∧ j = 4) → H' a j = H a j
theorem b12 {v : Int} {r : (Int × Int) × zSta} (hT : zTx H T v.toNat) (hv : 0 ≤ v ∧ v ≤ H 33 8) (hr : zps T v.toNat (v.toNat + 1) zS0 0 = r) : zclI w (d + 11) 12 [zR 32, zI v] H (fun x H' => zfLC H H' ∧ H' 33 8 = 0 ∧ ((r.1.1 = 0 ∧ x = (r.2.1.1.length : Int) ∧ H' 32 14 = 0 ∧ H' 32 12 = 0 ∧ H' 32 13 = -1 ∧ H' 32 11 = 0 ∧ zDeC H' 40 r.2.1 ∧ ∀ q : Nat, q ≤ 5 → H' (69 + 2 * q) 4 = 0) ∨ (r.1.1 ≠ 0 ∧ x = -1 ∧ H' 32 14 = 9 ∧ H' 32 12 = r.1.1 ∧ H' 32 13 = r.1.2 ∧ H' 32 11 = H 32 11 ∧ (∀ j, H' 40 j = H 40 j) ∧ (∀ j, H' 41 j = H 41 j) ∧ ∀ a j : Int, 69 ≤ a → a ≤ 80 → H' a j = H a j))) := by
  obtain ⟨n, rfl⟩ : ∃ n : Nat, v = n := ⟨v.toNat, by omega⟩
  rw [Int.toNat_natCast] at hT hr
  obtain ⟨x1, H1, ⟨g1, g8, r1⟩, e1⟩ : ∃ x H', ((∀ a j : Int, a ≠ 33 → a ≠ 35 → a ≠ 42 → a ≠ 43 → H' a j = H a j) ∧ H' 33 8 = 0 ∧ ((x = 1 ∧ r.1.1 = 0 ∧ zDeC H' 42 r.2.1 ∧ H' 33 9 = 0 ∧ H' 33 10 = -1) ∨ (x = 0 ∧ r.1.1 ≠ 0 ∧ H' 33 9 = r.1.1 ∧ H' 33 10 = r.1.2))) ∧ ∀ K : Int → zHt → Prop, zclI w (d + 10) 14 [zR 33, zI n, zR 42] H K = K x H' := by
    refine zclI_ex (x14_0 (Or.inr (Or.inl rfl)) (x6_0 (Or.inr (Or.inl rfl)) ?_))
    have em : (if H 33 8 < (n : Int) then H 33 8 else (n : Int)) = (n : Int) := if_neg (by omega)
    rw [em]
    have F : ∀ a j : Int, a ≠ 33 → a ≠ 42 → zup (zup (zup (zup (zup (zup (zup (zup (zup H 33 2 (n : Int)) 33 8 0) 33 3 0) 33 9 0) 33 10 (-1)) 42 1 0) 42 2 100000) 42 3 30) 42 4 0 a j = H a j := fun a j q1 q2 => by
      rw [zq_ne (by omega), zq_ne (by omega), zq_ne (by omega), zq_ne (by omega), zq_ne (by omega), zq_ne (by omega), zq_ne (by omega), zq_ne (by omega), zq_ne (by omega)]
    have k2 : zup (zup (zup (zup (zup (zup (zup (zup (zup H 33 2 (n : Int)) 33 8 0) 33 3 0) 33 9 0) 33 10 (-1)) 42 1 0) 42 2 100000) 42 3 30) 42 4 0 33 2 = (n : Int) := by
      rw [zq_ne (by omega), zq_ne (by omega), zq_ne (by omega), zq_ne (by omega), zq_ne (by omega), zq_ne (by omega), zq_ne (by omega), zq_ne (by omega), zq_eq]
    have k8 : zup (zup (zup (zup (zup (zup (zup (zup (zup H 33 2 (n : Int)) 33 8 0) 33 3 0) 33 9 0) 33 10 (-1)) 42 1 0) 42 2 100000) 42 3 30) 42 4 0 33 8 = 0 := by
      rw [zq_ne (by omega), zq_ne (by omega), zq_ne (by omega), zq_ne (by omega), zq_ne (by omega), zq_ne (by omega), zq_ne (by omega), zq_eq]
    have k3 : zup (zup (zup (zup (zup (zup (zup (zup (zup H 33 2 (n : Int)) 33 8 0) 33 3 0) 33 9 0) 33 10 (-1)) 42 1 0) 42 2 100000) 42 3 30) 42 4 0 33 3 = ((0 : Nat) : Int) := by
      rw [zq_ne (by omega), zq_ne (by omega), zq_ne (by omega), zq_ne (by omega), zq_ne (by omega), zq_ne (by omega), zq_eq]; rfl
    have k9 : zup (zup (zup (zup (zup (zup (zup (zup (zup H 33 2 (n : Int)) 33 8 0) 33 3 0) 33 9 0) 33 10 (-1)) 42 1 0) 42 2 100000) 42 3 30) 42 4 0 33 9 = 0 := by
      rw [zq_ne (by omega), zq_ne (by omega), zq_ne (by omega), zq_ne (by omega), zq_ne (by omega), zq_eq]
    have k10 : zup (zup (zup (zup (zup (zup (zup (zup (zup H 33 2 (n : Int)) 33 8 0) 33 3 0) 33 9 0) 33 10 (-1)) 42 1 0) 42 2 100000) 42 3 30) 42 4 0 33 10 = -1 := by
      rw [zq_ne (by omega), zq_ne (by omega), zq_ne (by omega), zq_ne (by omega), zq_eq]
    have D0 : zDeC (zup (zup (zup (zup (zup (zup (zup (zup (zup H 33 2 (n : Int)) 33 8 0) 33 3 0) 33 9 0) 33 10 (-1)) 42 1 0) 42 2 100000) 42 3 30) 42 4 0) 42 zS0.1 := by
      refine ⟨?_, ?_, ?_, zq_eq, fun k hk => absurd hk (Nat.not_lt_zero k)⟩
      · rw [zq_ne (by omega), zq_ne (by omega), zq_ne (by omega), zq_eq]; rfl
      · rw [zq_ne (by omega), zq_ne (by omega), zq_eq]; rfl
      · rw [zq_ne (by omega), zq_eq]; rfl
    generalize zup (zup (zup (zup (zup (zup (zup (zup (zup H 33 2 (n : Int)) 33 8 0) 33 3 0) 33 9 0) 33 10 (-1)) 42 1 0) 42 2 100000) 42 3 30) 42 4 0 = H1 at F k2 k8 k3 k9 k10 D0 ⊢
    refine g_mono (c14l (w := w) (d := d + 1) (H0 := H1) (T := T) (N := n) (r := r) (n + 1) 0 0 zS0 H1 rfl (Nat.zero_le n) zS0_ok ⟨hT.1, fun k hk => by rw [F 34 k (by omega) (by omega)]; exact hT.2 k hk⟩ k2 k3 D0 (fun k hk => absurd hk (Nat.not_lt_zero k)) zfld_rfl rfl rfl hr) (fun rr H' h => ?_)
    obtain ⟨x, ex, fl, res⟩ := h
    refine ⟨x, ex, fun a j q1 q2 q3 q4 => (fl a j (by omega) q2 q3 q4).trans (F a j q1 q3), (fl 33 8 (by omega) (by omega) (by omega) (by omega)).trans k8, ?_⟩
    rcases res with ⟨a, b, c, e, g⟩ | ⟨a, b, c, e⟩
    · exact Or.inl ⟨a, b, c, e.trans k9, g.trans k10⟩
    · exact Or.inr ⟨a, b, c, e⟩
  refine x12_0 ⟨fun q => by omega, fun _ => ⟨fun _ => ?_, fun q => by omega⟩⟩
  rw [e1]
  rcases r1 with ⟨rfl, r0, rD, r9, r10⟩ | ⟨rfl, r0, r9, r10⟩
  · refine ⟨fun _ => ?_, fun q => absurd q (by decide)⟩
    rw [r9, r10]
    have D2 : zDeC (zup (zup H1 32 12 0) 32 13 (-1)) 42 r.2.1 := zDeC_k (fun j => by rw [zq_ne (by omega), zq_ne (by omega)]) (fun j => by rw [zq_ne (by omega), zq_ne (by omega)]) rD
    obtain ⟨H2, ⟨f2, c1, c2, c3, c4, c5⟩, e2⟩ := c37 (w := w) (d := d + 10) (H := zup (zup H1 32 12 0) 32 13 (-1)) (o := 40) (p := 42) (Or.inl rfl) (Or.inr (Or.inl rfl)) (by decide)
    rw [e2]
    have hle : r.2.1.1.length ≤ 6 := by
      have := zps_ok (T := T) (N := n) (F := n + 1) (Nat.zero_le n) zS0_ok (by rw [hr]; exact r0)
      rw [hr] at this; exact this.1.1
    have D3 : zDeC H2 40 r.2.1 := zDeC_cp hle ⟨c1, c2, c3, c4, c5⟩ D2
    obtain ⟨H3, ⟨f3, z3⟩, e3⟩ := c38 (w := w) (d := d + 10) (H := zup H2 32 11 0)
    rw [e3, c39]
    have fr : ∀ a j : Int, ¬ (a = 32 ∧ 11 ≤ j ∧ j ≤ 14) → a ≠ 40 → a ≠ 41 → ¬ ((69 ≤ a ∧ a ≤ 79) ∧ j = 4) → zup H3 32 14 0 a j = H1 a j := fun a j q1 q2 q3 q4 => by
      rw [zq_ne (by omega), f3 a j q4, zq_ne (by omega), f2 a j q2 (by omega), zq_ne (by omega), zq_ne (by omega)]
    refine ⟨fun a j q1 q2 q3 q4 q5 => ?_, ?_, Or.inl ⟨r0, ?_, zq_eq, ?_, ?_, ?_, ?_, fun q hq => ?_⟩⟩
    · rw [fr a j q1 (by omega) (by omega) q5]; exact g1 a j q2 q3 (by omega) (by omega)
    · rw [fr 33 8 (by omega) (by omega) (by omega) (by omega)]; exact g8
    · rw [f3 40 1 (by omega), zq_ne (by omega)]; exact D3.1
    · rw [zq_ne (by omega), f3 32 12 (by omega), zq_ne (by omega), f2 32 12 (by omega) (by omega), zq_ne (by omega), zq_eq]
    · rw [zq_ne (by omega), f3 32 13 (by omega), zq_ne (by omega), f2 32 13 (by omega) (by omega), zq_eq]
    · rw [zq_ne (by omega), f3 32 11 (by omega), zq_eq]
    · exact zDeC_k (fun j => by rw [zq_ne (by omega), f3 40 j (by omega), zq_ne (by omega)]) (fun j => by rw [zq_ne (by omega), f3 _ j (by omega), zq_ne (by omega)]) D3
    · rw [zq_ne (by omega)]; exact z3 q hq
  · refine ⟨fun q => absurd rfl q, fun _ => ?_⟩
    rw [c13, r9, r10]
    refine ⟨fun a j q1 q2 q3 q4 q5 => ?_, ?_, Or.inr ⟨r0, rfl, zq_eq, ?_, ?_, ?_, fun j => ?_, fun j => ?_, fun a j p1 p2 => ?_⟩⟩
    · rw [zq_ne (by omega), zq_ne (by omega), zq_ne (by omega)]; exact g1 a j q2 q3 (by omega) (by omega)
    · rw [zq_ne (by omega), zq_ne (by omega), zq_ne (by omega)]; exact g8
    · rw [zq_ne (by omega), zq_ne (by omega), zq_eq]
    · rw [zq_ne (by omega), zq_eq]
    · rw [zq_ne (by omega), zq_ne (by omega), zq_ne (by omega)]; exact g1 32 11 (by omega) (by omega) (by omega) (by omega)
    · rw [zq_ne (by omega), zq_ne (by omega), zq_ne (by omega)]; exact g1 40 j (by omega) (by omega) (by omega) (by omega)
    · rw [zq_ne (by omega), zq_ne (by omega), zq_ne (by omega)]; exact g1 41 j (by omega) (by omega) (by omega) (by omega)
    · rw [zq_ne (by omega), zq_ne (by omega), zq_ne (by omega)]; exact g1 a j (by omega) (by omega) (by omega) (by omega)
end Z74p
section Z74q
variable {w : zWt}
theorem l356 (hw : w.1 ≤ 3072) : zLaw w (zKept zAllR) 356 := fun H i hi hR K nx => x0_356 (d := 1999) (by
  refine ⟨zidx hw hi (by decide) (by decide), ?_⟩
  generalize zH0 w.2 0 (w32 ((i : Int) + 1)) = v
  obtain ⟨st0, hD, ⟨⟨hf1, hf2⟩, h93⟩, ⟨t1, t2, t3, t4⟩, ⟨a1, a2, a3, a4, a5, a6⟩, hI, hW⟩ := hR
  by_cases hv : 0 ≤ v ∧ v ≤ H 33 8
  · have hT : zTx H (fun k => H 34 k) v.toNat := ⟨by omega, fun k hk => by
      have := t4 k (by omega)
      exact ⟨rfl, this.1, this.2.1⟩⟩
    have ok : ∀ h : (zps (fun k => H 34 k) v.toNat (v.toNat + 1) zS0 0).1.1 = 0, zOkD (zps (fun k => H 34 k) v.toNat (v.toNat + 1) zS0 0).2.1 := fun h => (zps_ok (Nat.zero_le _) zS0_ok h).1
    refine zclI_mono (b12 (w := w) (d := 1988) hT hv rfl) (fun x H1 q1 => ?_)
    obtain ⟨f1, z8, r1⟩ := q1
    have hT1 : zTxM H1 (fun k => H 34 k) v.toNat := ⟨hT.1, fun k hk => by
      have := t4 k (by omega)
      exact ⟨(f1 99 k (by omega) (by omega) (by omega) (by omega) (by omega)).trans this.2.2, this.1, this.2.1⟩⟩
    refine zclI_mono (b277 (w := w) (d := 1992) (fun k hk => (f1 101 k (by omega) (by omega) (by omega) (by omega) (by omega)).trans (h93.2 k hk)) hT1 ⟨hv.1, by rw [f1 81 31 (by omega) (by omega) (by omega) (by omega) (by omega)]; omega⟩ rfl) (fun y H2 q2 => ?_)
    obtain ⟨f2, z31, r2⟩ := q2
    generalize zps (fun k => H 34 k) v.toNat (v.toNat + 1) zS0 0 = r at r1 r2 ok
    have fr : ∀ a j : Int, ¬ (a = 32 ∧ 11 ≤ j ∧ j ≤ 14) → a ≠ 33 → a ≠ 35 → ¬ (40 ≤ a ∧ a ≤ 43) → ¬ ((69 ≤ a ∧ a ≤ 79) ∧ j = 4) → a ≠ 82 → a ≠ 83 → a ≠ 100 → ¬ (a = 81 ∧ (j = 0 ∨ j = 1 ∨ j = 5 ∨ 31 ≤ j ∧ j ≤ 41)) → H2 a j = H a j := fun a j p1 p2 p3 p4 p5 p6 p7 p8 p9 => (f2 a j p6 p7 p8 p9).trans (f1 a j p1 p2 p3 p4 p5)
    have lo : ∀ a j : Int, a < 81 → H2 a j = H1 a j := fun a j p => f2 a j (by omega) (by omega) (by omega) (by omega)
    have k93 : zM93 H2 := zM93_k h93 (fun j => fr 93 j (by omega) (by omega) (by omega) (by omega) (by omega) (by omega) (by omega) (by omega) (by omega)) (fun j => fr 101 j (by omega) (by omega) (by omega) (by omega) (by omega) (by omega) (by omega) (by omega) (by omega))
    have kI : zIk H2 := by
      have e1 : ∀ j, H2 49 j = H 49 j := fun j => fr 49 j (by omega) (by omega) (by omega) (by omega) (by omega) (by omega) (by omega) (by omega) (by omega)
      have e2 : ∀ j, H2 98 j = H 98 j := fun j => fr 98 j (by omega) (by omega) (by omega) (by omega) (by omega) (by omega) (by omega) (by omega) (by omega)
      unfold zIk at hI ⊢
      rw [fr 48 1 (by omega) (by omega) (by omega) (by omega) (by omega) (by omega) (by omega) (by omega) (by omega), fr 81 29 (by omega) (by omega) (by omega) (by omega) (by omega) (by omega) (by omega) (by omega) (by omega)]
      simp only [e1, e2]
      exact hI
    have kT : zTp H2 := by
      have e : H2 33 8 = 0 := (lo 33 8 (by omega)).trans z8
      exact ⟨by rw [e, z31], by omega, by omega, fun k hk => by omega⟩
    have e44 : ∀ j, H2 44 j = H 44 j := fun j => fr 44 j (by omega) (by omega) (by omega) (by omega) (by omega) (by omega) (by omega) (by omega) (by omega)
    rcases r1 with ⟨r0, rfl, s14, s12, s13, s11, D40, fl⟩ | ⟨r0, rfl, s14, s12, s13, s11, e40, e41, fl⟩
    · rcases r2 with ⟨-, rfl, s0, s32, s33, s5, D82⟩ | ⟨r0', _⟩
      · refine ⟨fun _ => nx H2 ⟨by rw [lo 32 14 (by omega), s14, s0], ?_, ⟨⟨by rw [lo 32 12 (by omega), s12, s32], by rw [lo 32 13 (by omega), s13, s33]⟩, k93⟩, kT, ?_, kI, ?_⟩, fun z => absurd rfl z⟩
        · exact zDk_da.mpr (zDa_of (ok r0) (zDeC_k (fun j => lo 40 j (by omega)) (fun j => lo _ j (by omega)) D40) D82)
        · refine ⟨by rw [lo 32 11 (by omega), s11, s5], by omega, by omega, fun k hk => by rw [e44]; exact a4 k hk, fun k l hk hl e => a5 k l hk hl (by rw [← e44, ← e44]; exact e), fun k hk => by omega⟩
        · intro q h5 h1 h2
          exact absurd ((lo _ 4 (by omega)).trans (fl q h5)) h2
      · exact absurd r0 r0'
    · rcases r2 with ⟨r0', _⟩ | ⟨-, rfl, s0, s32, s33, s5, e82⟩
      · exact absurd r0' r0
      · have g40 : ∀ j, H2 40 j = H 40 j := fun j => (lo 40 j (by omega)).trans (e40 j)
        have g41 : ∀ j, H2 41 j = H 41 j := fun j => (lo 41 j (by omega)).trans (e41 j)
        have g82 : ∀ j, H2 82 j = H 82 j := fun j => (e82 j).trans (f1 82 j (by omega) (by omega) (by omega) (by omega) (by omega))
        refine ⟨fun _ => nx H2 ⟨by rw [lo 32 14 (by omega), s14, s0], ?_, ⟨⟨by rw [lo 32 12 (by omega), s12, s32], by rw [lo 32 13 (by omega), s13, s33]⟩, k93⟩, kT, ?_, kI, ?_⟩, fun z => absurd rfl z⟩
        · unfold zDk at hD ⊢
          simp only [g40, g41, g82]
          exact hD
        · have e5 : H2 81 5 = H 81 5 := s5.trans (f1 81 5 (by omega) (by omega) (by omega) (by omega) (by omega))
          refine ⟨by rw [lo 32 11 (by omega), s11, e5]; exact a1, by omega, by omega, fun k hk => by rw [e44]; exact a4 k hk, fun k l hk hl e => a5 k l hk hl (by rw [← e44, ← e44]; exact e), fun k hk => ?_⟩
          rw [e5] at hk
          rw [e44]
          obtain ⟨j, hj, ej⟩ := a4 k (by omega)
          exact zDa_eq (fun q => fr _ q (by omega) (by omega) (by omega) (by omega) (by omega) (by omega) (by omega) (by omega) (by omega)) (fun q => fr _ q (by omega) (by omega) (by omega) (by omega) (by omega) (by omega) (by omega) (by omega) (by omega)) (fun q => fr 84 q (by omega) (by omega) (by omega) (by omega) (by omega) (by omega) (by omega) (by omega) (by omega)) (a6 k hk)
        · intro q h5 h1 h2
          rw [g40] at h1
          have fw : ∀ a j : Int, 69 ≤ a → a ≤ 80 → H2 a j = H a j := fun a j p1 p2 => (lo a j (by omega)).trans (fl a j p1 p2)
          rw [fw _ 4 (by omega) (by omega)] at h2
          obtain ⟨b1, b2, b3, b4⟩ := hW q h5 h1 h2
          rw [g40, g40, g40, g41]
          exact ⟨(fw _ 1 (by omega) (by omega)).trans b1, (fw _ 2 (by omega) (by omega)).trans b2, (fw _ 3 (by omega) (by omega)).trans b3, zArr_eq (fun k _ => fw _ k (by omega) (by omega)) b4⟩
  · have k1 : zclI w 1999 12 [zR 32, zI v] H (fun x H1 => x = -1 ∧ H1 = zup H 32 14 1) := x12_0 (d := 1998) ⟨fun _ => by rw [c13]; exact ⟨rfl, rfl⟩, fun q => ⟨fun q2 => absurd ⟨q, q2⟩ hv, fun _ => by rw [c13]; exact ⟨rfl, rfl⟩⟩⟩
    refine zclI_mono k1 (fun x H1 q1 => ?_)
    obtain ⟨rfl, rfl⟩ := q1
    have k2 : zclI w 1999 277 [zR 81, zI v] (zup H 32 14 1) (fun x H1 => x = -1 ∧ H1 = zst (zup H 32 14 1) 1) := x277_0 (d := 1998) (by
      rw [c173, if_neg (by rw [zq_ne (by omega)]; omega)]
      refine ⟨fun _ => ?_, fun q => absurd rfl q⟩
      rw [c174_1]
      exact ⟨fun q => absurd rfl q, fun _ => ⟨rfl, rfl⟩⟩)
    refine zclI_mono k2 (fun y H2 q2 => ?_)
    obtain ⟨rfl, rfl⟩ := q2
    refine ⟨fun _ => nx _ ⟨?_, zAllR_k (zRk_of (zkeep_up rfl (zkeep_up rfl (zkeep_up rfl zkeep_rfl)))) ⟨hD, ⟨⟨hf1, hf2⟩, h93⟩, ⟨t1, t2, t3, t4⟩, ⟨a1, a2, a3, a4, a5, a6⟩, hI, hW⟩⟩, fun z => absurd rfl z⟩
    rw [zst_at (by omega), zq_eq, zst_0])
end Z74q
