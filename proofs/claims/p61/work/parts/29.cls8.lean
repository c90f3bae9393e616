/-! the case load -/
def zS0 : zSta := (([], 100000, 30, 0), [])
theorem zS0_ok : zOkS zS0 := ⟨⟨Nat.zero_le _, fun k hk => absurd hk (Nat.not_lt_zero k), by decide, by decide, by decide, by decide⟩, rfl, fun l hl => by cases hl⟩
theorem zps_ok {T : Nat → Int} {N : Nat} : ∀ {F p : Nat} {s : zSta}, p ≤ N → zOkS s → (zps T N F s p).1.1 = 0 → zOkS (zps T N F s p).2
  | 0, p, s, _, hs, _ => hs
  | F + 1, p, s, hp, hs, h => by
    unfold zps at h ⊢
    split at h
    · rename_i z
      rw [if_pos z]; exact hs
    · rename_i z
      rw [if_neg z]
      split at h
      · rename_i y
        rw [if_pos y]
        obtain ⟨o1, o2, o3⟩ := zln_ok hp hs y
        exact zps_ok o2 o1 h
      · rename_i y
        exact absurd h y
section Z74p
variable {w : zWt} {d : Nat} {H : zHt} {T : Nat → Int} {N : Nat}
/-- what the class may change -/
def zfLC (H H' : zHt) : Prop := ∀ a j : Int, ¬ (a = 32 ∧ 11 ≤ j ∧ j ≤ 14) → a ≠ 33 → a ≠ 35 → ¬ (40 ≤ a ∧ a ≤ 43) → ¬ ((69 ≤ a ∧ a ≤ 79) ∧ j = 4) → H' a j = H a j
theorem b12 {v : Int} {r : (Int × Int) × zSta} (hT : zTx H T v.toNat) (hv : 0 ≤ v ∧ v ≤ H 33 8) (hr : zps T v.toNat (v.toNat + 1) zS0 0 = r) : zclI w (d + 11) 12 [zR 32, zI v] H (fun x H' => zfLC H H' ∧ H' 33 8 = 0 ∧ ((r.1.1 = 0 ∧ x = (r.2.1.1.length : Int) ∧ H' 32 14 = 0 ∧ H' 32 12 = 0 ∧ H' 32 13 = -1 ∧ H' 32 11 = 0 ∧ zDeC H' 40 r.2.1 ∧ ∀ q : Nat, q ≤ 5 → H' (69 + 2 * q) 4 = 0) ∨ (r.1.1 ≠ 0 ∧ x = -1 ∧ H' 32 14 = 9 ∧ H' 32 12 = r.1.1 ∧ H' 32 13 = r.1.2 ∧ H' 32 11 = H 32 11 ∧ (∀ j, H' 40 j = H 40 j) ∧ (∀ j, H' 41 j = H 41 j) ∧ ∀ a j : Int, 69 ≤ a → a ≤ 80 → H' a j = H a j))) := by
  obtain ⟨n, rfl⟩ : ∃ n : Nat, v = n := ⟨v.toNat, by omega⟩
  rw [Int.toNat_natCast] at hT hr
  obtain ⟨x1, H1, ⟨g1, g8, r1⟩, e1⟩ : ∃ x H', ((∀ a j : Int, a ≠ 33 → a ≠ 35 → a ≠ 42 → a ≠ 43 → H' a j = H a j) ∧ H' 33 8 = 0 ∧ ((x = 1 ∧ r.1.1 = 0 ∧ zDeC H' 42 r.2.1 ∧ H' 33 9 = 0 ∧ H' 33 10 = -1) ∨ (x = 0 ∧ r.1.1 ≠ 0 ∧ H' 33 9 = r.1.1 ∧ H' 33 10 = r.1.2))) ∧ ∀ K : Int → zHt → Prop, zclI w (d + 10) 14 [zR 33, zI n, zR 42] H K = K x H' := by
    refine zclI_ex (x14_0 (Or.inr (Or.inl rfl)) (x6_0 (Or.inr (Or.inl rfl)) ?_))
    have em : (if H 33 8 < (n : Int) then H 33 8 else (n : Int)) = (n : Int) := if_neg (by omega)
    rw [em]
    have F : ∀ a j : Int, a ≠ 33 → a ≠ 42 → zup (zup (zup (zup (zup (zup (zup (zup (zup H 33 2 (n : Int)) 33 8 0) 33 3 0) 33 9 0) 33 10 (-1)) 42 1 0) 42 2 100000) 42 3 30) 42 4 0 a j = H a j := fun a j q1 q2 => by
      rw [zq_ne (by omega), zq_ne (by omega), zq_ne (by omega), zq_ne (by omega), zq_ne (by omega), zq_ne (by omega), zq_ne (by omega), zq_ne (by omega), zq_ne (by omega)]
    have k2 : zup (zup (zup (zup (zup (zup (zup (zup (zup H 33 2 (n : Int)) 33 8 0) 33 3 0) 33 9 0) 33 10 (-1)) 42 1 0) 42 2 100000) 42 3 30) 42 4 0 33 2 = (n : Int) := by
      rw [zq_ne (by omega), zq_ne (by omega), zq_ne (by omega), zq_ne (by omega), zq_ne (by omega), zq_ne (by omega), zq_ne (by omega), zq_ne (by omega), zq_eq]
    have k8 : zup (zup (zup (zup (zup (zup (zup (zup (zup H 33 2 (n : Int)) 33 8 0) 33 3 0) 33 9 0) 33 10 (-1)) 42 1 0) 42 2 100000) 42 3 30) 42 4 0 33 8 = 0 := by
      rw [zq_ne (by omega), zq_ne (by omega), zq_ne (by omega), zq_ne (by omega), zq_ne (by omega), zq_ne (by omega), zq_ne (by omega), zq_eq]
    have k3 : zup (zup (zup (zup (zup (zup (zup (zup (zup H 33 2 (n : Int)) 33 8 0) 33 3 0) 33 9 0) 33 10 (-1)) 42 1 0) 42 2 100000) 42 3 30) 42 4 0 33 3 = ((0 : Nat) : Int) := by
      rw [zq_ne (by omega), zq_ne (by omega), zq_ne (by omega), zq_ne (by omega), zq_ne (by omega), zq_ne (by omega), zq_eq]; rfl
    have k9 : zup (zup (zup (zup (zup (zup (zup (zup (zup H 33 2 (n : Int)) 33 8 0) 33 3 0) 33 9 0) 33 10 (-1)) 42 1 0) 42 2 100000) 42 3 30) 42 4 0 33 9 = 0 := by
      rw [zq_ne (by omega), zq_ne (by omega), zq_ne (by omega), zq_ne (by omega), zq_ne (by omega), zq_eq]
    have k10 : zup (zup (zup (zup (zup (zup (zup (zup (zup H 33 2 (n : Int)) 33 8 0) 33 3 0) 33 9 0) 33 10 (-1)) 42 1 0) 42 2 100000) 42 3 30) 42 4 0 33 10 = -1 := by
      rw [zq_ne (by omega), zq_ne (by omega), zq_ne (by omega), zq_ne (by omega), zq_eq]
    have D0 : zDeC (zup (zup (zup (zup (zup (zup (zup (zup (zup H 33 2 (n : Int)) 33 8 0) 33 3 0) 33 9 0) 33 10 (-1)) 42 1 0) 42 2 100000) 42 3 30) 42 4 0) 42 zS0.1 := by
      refine ⟨?_, ?_, ?_, zq_eq, fun k hk => absurd hk (Nat.not_lt_zero k)⟩
      · rw [zq_ne (by omega), zq_ne (by omega), zq_ne (by omega), zq_eq]; rfl
      · rw [zq_ne (by omega), zq_ne (by omega), zq_eq]; rfl
      · rw [zq_ne (by omega), zq_eq]; rfl
    generalize zup (zup (zup (zup (zup (zup (zup (zup (zup H 33 2 (n : Int)) 33 8 0) 33 3 0) 33 9 0) 33 10 (-1)) 42 1 0) 42 2 100000) 42 3 30) 42 4 0 = H1 at F k2 k8 k3 k9 k10 D0 ⊢
    refine g_mono (c14l (w := w) (d := d + 1) (H0 := H1) (T := T) (N := n) (r := r) (n + 1) 0 0 zS0 H1 rfl (Nat.zero_le n) zS0_ok ⟨hT.1, fun k hk => by rw [F 34 k (by omega) (by omega)]; exact hT.2 k hk⟩ k2 k3 D0 (fun k hk => absurd hk (Nat.not_lt_zero k)) zfld_rfl rfl rfl hr) (fun rr H' h => ?_)
    obtain ⟨x, ex, fl, res⟩ := h
    refine ⟨x, ex, fun a j q1 q2 q3 q4 => (fl a j (by omega) q2 q3 q4).trans (F a j q1 q3), (fl 33 8 (by omega) (by omega) (by omega) (by omega)).trans k8, ?_⟩
    rcases res with ⟨a, b, c, e, g⟩ | ⟨a, b, c, e⟩
    · exact Or.inl ⟨a, b, c, e.trans k9, g.trans k10⟩
    · exact Or.inr ⟨a, b, c, e⟩
  refine x12_0 ⟨fun q => by omega, fun _ => ⟨fun _ => ?_, fun q => by omega⟩⟩
  rw [e1]
  rcases r1 with ⟨rfl, r0, rD, r9, r10⟩ | ⟨rfl, r0, r9, r10⟩
  · refine ⟨fun _ => ?_, fun q => absurd q (by decide)⟩
    rw [r9, r10]
    have D2 : zDeC (zup (zup H1 32 12 0) 32 13 (-1)) 42 r.2.1 := zDeC_k (fun j => by rw [zq_ne (by omega), zq_ne (by omega)]) (fun j => by rw [zq_ne (by omega), zq_ne (by omega)]) rD
    obtain ⟨H2, ⟨f2, c1, c2, c3, c4, c5⟩, e2⟩ := c37 (w := w) (d := d + 10) (H := zup (zup H1 32 12 0) 32 13 (-1)) (o := 40) (p := 42) (Or.inl rfl) (Or.inr (Or.inl rfl)) (by decide)
    rw [e2]
    have hle : r.2.1.1.length ≤ 6 := by
      have := zps_ok (T := T) (N := n) (F := n + 1) (Nat.zero_le n) zS0_ok (by rw [hr]; exact r0)
      rw [hr] at this; exact this.1.1
    have D3 : zDeC H2 40 r.2.1 := zDeC_cp hle ⟨c1, c2, c3, c4, c5⟩ D2
    obtain ⟨H3, ⟨f3, z3⟩, e3⟩ := c38 (w := w) (d := d + 10) (H := zup H2 32 11 0)
    rw [e3, c39]
    have fr : ∀ a j : Int, ¬ (a = 32 ∧ 11 ≤ j ∧ j ≤ 14) → a ≠ 40 → a ≠ 41 → ¬ ((69 ≤ a ∧ a ≤ 79) ∧ j = 4) → zup H3 32 14 0 a j = H1 a j := fun a j q1 q2 q3 q4 => by
      rw [zq_ne (by omega), f3 a j q4, zq_ne (by omega), f2 a j q2 (by omega), zq_ne (by omega), zq_ne (by omega)]
    refine ⟨fun a j q1 q2 q3 q4 q5 => ?_, ?_, Or.inl ⟨r0, ?_, zq_eq, ?_, ?_, ?_, ?_, fun q hq => ?_⟩⟩
    · rw [fr a j q1 (by omega) (by omega) q5]; exact g1 a j q2 q3 (by omega) (by omega)
    · rw [fr 33 8 (by omega) (by omega) (by omega) (by omega)]; exact g8
    · rw [f3 40 1 (by omega), zq_ne (by omega)]; exact D3.1
    · rw [zq_ne (by omega), f3 32 12 (by omega), zq_ne (by omega), f2 32 12 (by omega) (by omega), zq_ne (by omega), zq_eq]
    · rw [zq_ne (by omega), f3 32 13 (by omega), zq_ne (by omega), f2 32 13 (by omega) (by omega), zq_eq]
    · rw [zq_ne (by omega), f3 32 11 (by omega), zq_eq]
    · exact zDeC_k (fun j => by rw [zq_ne (by omega), f3 40 j (by omega), zq_ne (by omega)]) (fun j => by rw [zq_ne (by omega), f3 _ j (by omega), zq_ne (by omega)]) D3
    · rw [zq_ne (by omega)]; exact z3 q hq
  · refine ⟨fun q => absurd rfl q, fun _ => ?_⟩
    rw [c13, r9, r10]
    refine ⟨fun a j q1 q2 q3 q4 q5 => ?_, ?_, Or.inr ⟨r0, rfl, zq_eq, ?_, ?_, ?_, fun j => ?_, fun j => ?_, fun a j p1 p2 => ?_⟩⟩
    · rw [zq_ne (by omega), zq_ne (by omega), zq_ne (by omega)]; exact g1 a j q2 q3 (by omega) (by omega)
    · rw [zq_ne (by omega), zq_ne (by omega), zq_ne (by omega)]; exact g8
    · rw [zq_ne (by omega), zq_ne (by omega), zq_eq]
    · rw [zq_ne (by omega), zq_eq]
    · rw [zq_ne (by omega), zq_ne (by omega), zq_ne (by omega)]; exact g1 32 11 (by omega) (by omega) (by omega) (by omega)
    · rw [zq_ne (by omega), zq_ne (by omega), zq_ne (by omega)]; exact g1 40 j (by omega) (by omega) (by omega) (by omega)
    · rw [zq_ne (by omega), zq_ne (by omega), zq_ne (by omega)]; exact g1 41 j (by omega) (by omega) (by omega) (by omega)
    · rw [zq_ne (by omega), zq_ne (by omega), zq_ne (by omega)]; exact g1 a j (by omega) (by omega) (by omega) (by omega)
end Z74p
section Z74q
variable {w : zWt}
end Z74q
