/-! the case feed -/
theorem zi8_e {x : Int} : zi8 x = x.bmod 256 := by
  unfold zi8
  rw [Int8.toInt_toInt32, Int32.toInt_toInt8, Int32.toInt_ofInt]
  exact Int.bmod_bmod_of_dvd (by decide)
theorem zby_s {x c : Int} {k : Nat} (hx : r32 x) (e : ((Int32.ofInt c &&& 31).toBitVec.smod 32).toNat = k) : zshr x c = x / ((2 ^ k : Nat) : Int) := by
  unfold zshr
  show ((Int32.ofInt x >>> (Int32.ofInt c &&& 31)).toBitVec).toInt = _
  rw [Int32.toBitVec_shiftRight, BitVec.toInt_sshiftRight', e, Int.shiftRight_eq_div_pow]
  rw [show (Int32.ofInt x).toBitVec.toInt = (Int32.ofInt x).toInt from rfl, z32 hx]
theorem zby_u {x c : Int} {k : Nat} (e : ((Int32.ofInt c).toUInt32 &&& Int32.toUInt32 31).toNat % 32 = k) : zand (zushr x c) 255 = (((x % 4294967296).toNat / 2 ^ k % 256 : Nat) : Int) := by
  unfold zand zushr
  rw [Int32.ofInt_toInt]
  have hU : ((Int32.ofInt x).toUInt32 >>> ((Int32.ofInt c).toUInt32 &&& Int32.toUInt32 31)).toNat = (x % 4294967296).toNat / 2 ^ k := by
    rw [UInt32.toNat_shiftRight, e, Nat.shiftRight_eq_div_pow]
    rw [show (Int32.ofInt x).toUInt32.toNat = (BitVec.ofInt 32 x).toNat from rfl, BitVec.toNat_ofInt]
    rfl
  generalize (Int32.ofInt x).toUInt32 >>> ((Int32.ofInt c).toUInt32 &&& Int32.toUInt32 31) = U at hU ⊢
  have t : ((U.toInt32 &&& Int32.ofInt 255).toBitVec).toNat = U.toNat % 256 := by
    rw [Int32.toBitVec_and, BitVec.toNat_and]
    exact Nat.and_two_pow_sub_one_eq_mod U.toNat 8
  show ((U.toInt32 &&& Int32.ofInt 255).toBitVec).toInt = _
  rw [BitVec.toInt_eq_toNat_of_lt (by rw [t]; omega), t, hU]
theorem zbyt {x : Int} {c : Nat} (hx : r32 x) (hc : c = 0 ∨ c = 8 ∨ c = 16 ∨ c = 24) : (0 ≤ zand (zushr x c) 255 ∧ zand (zushr x c) 255 ≤ 255) ∧ zi8 (zi8 (zshr x c)) = zi8 (zand (zushr x c) 255) := by
  obtain ⟨h1, h2⟩ := hx
  have key : ∀ k : Nat, k ≤ 24 → zand (zushr x c) 255 = (((x % 4294967296).toNat / 2 ^ k % 256 : Nat) : Int) → zshr x c = x / ((2 ^ k : Nat) : Int) → (0 ≤ zand (zushr x c) 255 ∧ zand (zushr x c) 255 ≤ 255) ∧ zi8 (zi8 (zshr x c)) = zi8 (zand (zushr x c) 255) := by
    intro k hk a b
    rw [a, b, zi8_e, zi8_e, zi8_e, Int.bmod_bmod]
    refine ⟨by omega, ?_⟩
    rw [show (((x % 4294967296).toNat / 2 ^ k % 256 : Nat) : Int) = (x % 4294967296 / ((2 ^ k : Nat) : Int)) % 256 by
      rw [Int.natCast_emod, Int.natCast_ediv, Int.toNat_of_nonneg (by omega)]; rfl]
    rw [show ∀ y : Int, (y % 256).bmod 256 = y.bmod 256 from fun y => Int.emod_bmod y 256]
    have e : x = x % 4294967296 + ((2 ^ k : Nat) : Int) * (((2 ^ (32 - k) : Nat) : Int) * (x / 4294967296)) := by
      rw [← Int.mul_assoc, ← Int.natCast_mul, ← Nat.pow_add, show k + (32 - k) = 32 by omega]
      have := Int.emod_add_mul_ediv x 4294967296
      exact this.symm
    have p : ((2 ^ k : Nat) : Int) ≠ 0 := by
      have := Nat.two_pow_pos k
      omega
    rw [show x / ((2 ^ k : Nat) : Int) = x % 4294967296 / ((2 ^ k : Nat) : Int) + 256 * (((2 ^ (24 - k) : Nat) : Int) * (x / 4294967296)) by
      rw [← Int.mul_assoc, show (256 : Int) * ((2 ^ (24 - k) : Nat) : Int) = ((2 ^ (32 - k) : Nat) : Int) by
        rw [show 32 - k = 8 + (24 - k) by omega, Nat.pow_add]; rfl]
      rw [← Int.add_mul_ediv_left _ _ p, ← e]]
    exact Int.add_mul_bmod_self_left _ 256 _
  rcases hc with rfl | rfl | rfl | rfl
  · exact key 0 (by omega) (zby_u (by decide)) (zby_s ⟨h1, h2⟩ (by decide))
  · exact key 8 (by omega) (zby_u (by decide)) (zby_s ⟨h1, h2⟩ (by decide))
  · exact key 16 (by omega) (zby_u (by decide)) (zby_s ⟨h1, h2⟩ (by decide))
  · exact key 24 (by omega) (zby_u (by decide)) (zby_s ⟨h1, h2⟩ (by decide))
/-- the tape with T behind its first n, in A, its length at P J -/
def zfdt (A P J : Int) (f : Int → Int) (H0 : zHt) (n : Nat) (T : List Int) (H : zHt) : Prop := H P J = ((n + T.length : Nat) : Int) ∧ (∀ k : Nat, k < n → H A k = H0 A k) ∧ (∀ k : Nat, k < T.length → H A ((n + k : Nat) : Int) = f (T.getD k 0)) ∧ ∀ a j : Int, a ≠ A → ¬ (a = P ∧ j = J) → H a j = H0 a j
def zfb (x : Int) : List Int := [zand (zushr x ((24 : Nat) : Int)) 255, zand (zushr x ((16 : Nat) : Int)) 255, zand (zushr x ((8 : Nat) : Int)) 255, zand (zushr x ((0 : Nat) : Int)) 255]
theorem zfb_len {x : Int} : (zfb x).length = 4 := rfl
theorem zfb_in {x b : Int} (hx : r32 x) (hb : b ∈ zfb x) : 0 ≤ b ∧ b ≤ 255 := by
  unfold zfb at hb
  simp only [List.mem_cons, List.not_mem_nil, or_false] at hb
  rcases hb with rfl | rfl | rfl | rfl
  · exact (zbyt hx (by omega)).1
  · exact (zbyt hx (by omega)).1
  · exact (zbyt hx (by omega)).1
  · exact (zbyt hx (by omega)).1
theorem zfd_add {A P J x b : Int} {f : Int → Int} {H0 H : zHt} {n : Nat} {T : List Int} (hA : A ≠ P) (h : zfdt A P J f H0 n T H) (hn : n + T.length < 400) (hb : x = f b) : zfdt A P J f H0 n (T ++ [b]) (zup (zup H A (H P J) x) P J (w32 (H P J + 1))) := by
  obtain ⟨h1, h2, h3, h4⟩ := h
  have hl : (T ++ [b]).length = T.length + 1 := by rw [List.length_append]; rfl
  refine ⟨?_, fun k hk => ?_, fun k hk => ?_, fun a j q1 q2 => ?_⟩
  · rw [zq_eq, h1, w32_id (by omega), hl]; omega
  · rw [zq_ne (fun z => hA z.1), zq_ne (by rw [h1]; omega)]; exact h2 k hk
  · rw [zq_ne (fun z => hA z.1), h1]
    rw [hl] at hk
    by_cases z : k = T.length
    · subst z
      rw [zq_eq, hb, List.getD_eq_getElem?_getD, List.getElem?_append_right (Nat.le_refl _), Nat.sub_self]; rfl
    · rw [zq_ne (by omega), h3 k (by omega), List.getD_eq_getElem?_getD, List.getD_eq_getElem?_getD, List.getElem?_append_left (by omega)]
  · rw [zq_ne q2, zq_ne (fun z => q1 z.1)]; exact h4 a j q1 q2
theorem zfd_st {A P J : Int} {f : Int → Int} {H : zHt} {n : Nat} (h : H P J = (n : Int)) : zfdt A P J f H n [] H := ⟨by rw [h]; rfl, fun _ _ => rfl, fun k hk => absurd hk (Nat.not_lt_zero k), fun _ _ _ _ => rfl⟩
section Z62
variable {w : zWt} {d : Nat} {H : zHt}
theorem zfd_4 {A P J x x1 x2 x3 x4 : Int} {f : Int → Int} {H0 : zHt} {n : Nat} {T : List Int} (hA : A ≠ P) (h : zfdt A P J f H0 n T H) (hn : n + T.length + 4 ≤ 400) (e1 : x1 = f (zand (zushr x ((24 : Nat) : Int)) 255)) (e2 : x2 = f (zand (zushr x ((16 : Nat) : Int)) 255)) (e3 : x3 = f (zand (zushr x ((8 : Nat) : Int)) 255)) (e4 : x4 = f (zand (zushr x ((0 : Nat) : Int)) 255)) : ∃ H1 H2 H3, H1 = zup (zup H A (H P J) x1) P J (w32 (H P J + 1)) ∧ H2 = zup (zup H1 A (H1 P J) x2) P J (w32 (H1 P J + 1)) ∧ H3 = zup (zup H2 A (H2 P J) x3) P J (w32 (H2 P J + 1)) ∧ zfdt A P J f H0 n (T ++ zfb x) (zup (zup H3 A (H3 P J) x4) P J (w32 (H3 P J + 1))) ∧ (0 ≤ H P J ∧ H P J < 400) ∧ (0 ≤ H1 P J ∧ H1 P J < 400) ∧ (0 ≤ H2 P J ∧ H2 P J < 400) ∧ (0 ≤ H3 P J ∧ H3 P J < 400) := by
  have h1 := zfd_add hA h (by omega) e1
  have h2 := zfd_add hA h1 (by simp only [List.length_append, List.length_cons, List.length_nil]; omega) e2
  have h3 := zfd_add hA h2 (by simp only [List.length_append, List.length_cons, List.length_nil]; omega) e3
  have h4 := zfd_add hA h3 (by simp only [List.length_append, List.length_cons, List.length_nil]; omega) e4
  refine ⟨_, _, _, rfl, rfl, rfl, ?_, ?_, ?_, ?_, ?_⟩
  · simp only [List.append_assoc, List.cons_append, List.nil_append] at h4
    exact h4
  · rw [h.1]; omega
  · rw [h1.1]; simp only [List.length_append, List.length_cons, List.length_nil]; omega
  · rw [h2.1]; simp only [List.length_append, List.length_cons, List.length_nil]; omega
  · rw [h3.1]; simp only [List.length_append, List.length_cons, List.length_nil]; omega
theorem zst16 : w32 (24 + (-8)) = 16 := (w32_id (by omega)).trans (by decide)
theorem zst8 : w32 (16 + (-8)) = 8 := (w32_id (by omega)).trans (by decide)
theorem zst00 : w32 (8 + (-8)) = 0 := (w32_id (by omega)).trans (by decide)
theorem zstm : w32 (0 + (-8)) = -8 := (w32_id (by omega)).trans (by decide)
theorem c11 {H0 : zHt} {n : Nat} {T : List Int} {x : Int} (h : zfdt 34 33 8 id H0 n T H) (hn : n + T.length + 4 ≤ 400) : ∃ H', zfdt 34 33 8 id H0 n (T ++ zfb x) H' ∧ ∀ K : zHt → Prop, zclV w d 11 [zR 33, zI x] H K = K H' := by
  obtain ⟨H1, H2, H3, g1, g2, g3, g, b0, b1, b2, b3⟩ := zfd_4 (x := x) (by decide) h hn rfl rfl rfl rfl
  refine ⟨_, g, fun K => zclV_eq fun K k => x11_0 (x11_3 ⟨fun q => absurd q (by decide), fun _ => ⟨fun q => absurd q (by omega), fun _ => ⟨b0, ?_⟩⟩⟩)⟩
  rw [show zup (zup H 34 (H 33 8) (zand (zushr x 24) 255)) 33 8 (w32 (H 33 8 + 1)) = H1 from g1.symm, zst16]
  refine x11_3 ⟨fun q => absurd q (by decide), fun _ => ⟨fun q => absurd q (by omega), fun _ => ⟨b1, ?_⟩⟩⟩
  rw [show zup (zup H1 34 (H1 33 8) (zand (zushr x 16) 255)) 33 8 (w32 (H1 33 8 + 1)) = H2 from g2.symm, zst8]
  refine x11_3 ⟨fun q => absurd q (by decide), fun _ => ⟨fun q => absurd q (by omega), fun _ => ⟨b2, ?_⟩⟩⟩
  rw [show zup (zup H2 34 (H2 33 8) (zand (zushr x 8) 255)) 33 8 (w32 (H2 33 8 + 1)) = H3 from g3.symm, zst00]
  refine x11_3 ⟨fun q => absurd q (by decide), fun _ => ⟨fun q => absurd q (by omega), fun _ => ⟨b3, ?_⟩⟩⟩
  rw [zstm]
  exact x11_3 ⟨fun _ => k, fun q => absurd q (by decide)⟩
theorem c276 {H0 : zHt} {n : Nat} {T : List Int} {x : Int} (hx : r32 x) (h : zfdt 99 81 31 zi8 H0 n T H) (hn : n + T.length + 4 ≤ 400) : ∃ H', zfdt 99 81 31 zi8 H0 n (T ++ zfb x) H' ∧ ∀ K : zHt → Prop, zclV w d 276 [zR 81, zI x] H K = K H' := by
  obtain ⟨H1, H2, H3, g1, g2, g3, g, b0, b1, b2, b3⟩ := zfd_4 (x := x) (by decide) h hn (zbyt hx (by omega)).2 (zbyt hx (by omega)).2 (zbyt hx (by omega)).2 (zbyt hx (by omega)).2
  refine ⟨_, g, fun K => zclV_eq fun K k => x276_0 (x276_3 ⟨fun q => absurd q (by decide), fun _ => ⟨b0, ?_⟩⟩)⟩
  rw [show zup (zup H 99 (H 81 31) (zi8 (zi8 (zshr x 24)))) 81 31 (w32 (H 81 31 + 1)) = H1 from g1.symm, zst16]
  refine x276_3 ⟨fun q => absurd q (by decide), fun _ => ⟨b1, ?_⟩⟩
  rw [show zup (zup H1 99 (H1 81 31) (zi8 (zi8 (zshr x 16)))) 81 31 (w32 (H1 81 31 + 1)) = H2 from g2.symm, zst8]
  refine x276_3 ⟨fun q => absurd q (by decide), fun _ => ⟨b2, ?_⟩⟩
  rw [show zup (zup H2 99 (H2 81 31) (zi8 (zi8 (zshr x 8)))) 81 31 (w32 (H2 81 31 + 1)) = H3 from g3.symm, zst00]
  refine x276_3 ⟨fun q => absurd q (by decide), fun _ => ⟨b3, ?_⟩⟩
  rw [zstm]
  exact x276_3 ⟨fun _ => k, fun q => absurd q (by decide)⟩
/-- all but the tape kept -/
theorem zAllR_t {H' : zHt} (f : ∀ a j : Int, a ≠ 34 → a ≠ 99 → ¬ (a = 33 ∧ j = 8) → ¬ (a = 81 ∧ (j = 31 ∨ j = 1)) → H' a j = H a j) (ht : zTp H') (h : zAllR H) : zAllR H' := by
  let H2 : zHt := fun a j => if a = 34 ∨ a = 99 ∨ (a = 33 ∧ j = 8) ∨ (a = 81 ∧ j = 31) then H a j else H' a j
  have k : zkeep H H2 := fun a j q => by
    show (if a = 34 ∨ a = 99 ∨ (a = 33 ∧ j = 8) ∨ (a = 81 ∧ j = 31) then H a j else H' a j) = H a j
    by_cases z : a = 34 ∨ a = 99 ∨ (a = 33 ∧ j = 8) ∨ (a = 81 ∧ j = 31)
    · rw [if_pos z]
    · rw [if_neg z]
      exact f a j (fun y => z (Or.inl y)) (fun y => z (Or.inr (Or.inl y))) (fun y => z (Or.inr (Or.inr (Or.inl y)))) (fun y => by
        obtain ⟨rfl, rfl | rfl⟩ := y
        · exact z (Or.inr (Or.inr (Or.inr ⟨rfl, rfl⟩)))
        · cases q)
  have e : ∀ a j : Int, a ≠ 34 → a ≠ 99 → ¬ (a = 33 ∧ j = 8) → ¬ (a = 81 ∧ j = 31) → H' a j = H2 a j := fun a j q1 q2 q3 q4 => by
    show _ = (if a = 34 ∨ a = 99 ∨ (a = 33 ∧ j = 8) ∨ (a = 81 ∧ j = 31) then H a j else H' a j)
    rw [if_neg (by omega)]
  obtain ⟨h1, h2, -, h4, h5, h6⟩ := zAllR_k (zRk_of k) h
  refine ⟨?_, ?_, ht, ?_, ?_, fun r r5 r1 r2 => ?_⟩
  · have e1 : ∀ j, H' 40 j = H2 40 j := fun j => e 40 j (by decide) (by decide) (by omega) (by omega)
    have e2 : ∀ j, H' 41 j = H2 41 j := fun j => e 41 j (by decide) (by decide) (by omega) (by omega)
    have e3 : ∀ j, H' 82 j = H2 82 j := fun j => e 82 j (by decide) (by decide) (by omega) (by omega)
    unfold zDk at h1 ⊢
    simp only [e1, e2, e3]
    exact h1
  · rw [e 32 12 (by decide) (by decide) (by omega) (by omega), e 32 13 (by decide) (by decide) (by omega) (by omega), e 81 32 (by decide) (by decide) (by omega) (by omega), e 81 33 (by decide) (by decide) (by omega) (by omega)]; exact ⟨h2.1, zM93_k h2.2 (fun j => e 93 j (by decide) (by decide) (by omega) (by omega)) (fun j => e 101 j (by decide) (by decide) (by omega) (by omega))⟩
  · have e1 : ∀ j, H' 44 j = H2 44 j := fun j => e 44 j (by decide) (by decide) (by omega) (by omega)
    obtain ⟨a1, a2, a3, a4, a5, a6⟩ := h4
    unfold zAc
    rw [e 32 11 (by decide) (by decide) (by omega) (by omega), e 81 5 (by decide) (by decide) (by omega) (by omega)]
    simp only [e1]
    refine ⟨a1, a2, a3, a4, a5, fun i hi => ?_⟩
    obtain ⟨j, hj, ej⟩ := a4 i (by omega)
    exact zDa_eq (fun q => e _ _ (by omega) (by omega) (by omega) (by omega)) (fun q => e _ _ (by omega) (by omega) (by omega) (by omega)) (fun q => e 84 q (by decide) (by decide) (by omega) (by omega)) (a6 i hi)
  · have e1 : ∀ j, H' 49 j = H2 49 j := fun j => e 49 j (by decide) (by decide) (by omega) (by omega)
    have e2 : ∀ j, H' 98 j = H2 98 j := fun j => e 98 j (by decide) (by decide) (by omega) (by omega)
    unfold zIk at h5 ⊢
    rw [e 48 1 (by decide) (by decide) (by omega) (by omega), e 81 29 (by decide) (by decide) (by omega) (by omega)]
    simp only [e1, e2]
    exact h5
  · have e1 : ∀ j, H' 40 j = H2 40 j := fun j => e 40 j (by decide) (by decide) (by omega) (by omega)
    rw [e1] at r1
    rw [e _ _ (by omega) (by omega) (by omega) (by omega)] at r2
    obtain ⟨a1, a2, a3, a4⟩ := h6 r r5 r1 r2
    rw [e1, e1, e1, e 41 r (by omega) (by omega) (by omega) (by omega)]
    exact ⟨by rw [e _ _ (by omega) (by omega) (by omega) (by omega)]; exact a1, by rw [e _ _ (by omega) (by omega) (by omega) (by omega)]; exact a2, by rw [e _ _ (by omega) (by omega) (by omega) (by omega)]; exact a3, zArr_eq (fun k _ => e _ _ (by omega) (by omega) (by omega) (by omega)) a4⟩
-- feed
theorem l293 (hw : w.1 ≤ 3072) : zLaw w (zKept zAllR) 293 := fun H i hi hR K nx => x0_293 (d := 1999) (by
  refine ⟨zidx hw hi (by decide) (by decide), zidx hw hi (by decide) (by decide), zidx hw hi (by decide) (by decide), zidx hw hi (by decide) (by decide), zidx hw hi (by decide) (by decide), ?_⟩
  have r1 : r32 (zH0 w.2 0 (w32 ((i : Int) + 1))) := zv_r
  have r2 : r32 (zH0 w.2 0 (w32 ((i : Int) + 2))) := zv_r
  have r3 : r32 (zH0 w.2 0 (w32 ((i : Int) + 3))) := zv_r
  have r4 : r32 (zH0 w.2 0 (w32 ((i : Int) + 4))) := zv_r
  have r5 : r32 (zH0 w.2 0 (w32 ((i : Int) + 5))) := zv_r
  generalize zH0 w.2 0 (w32 ((i : Int) + 1)) = a1 at r1 ⊢
  generalize zH0 w.2 0 (w32 ((i : Int) + 2)) = a2 at r2 ⊢
  generalize zH0 w.2 0 (w32 ((i : Int) + 3)) = a3 at r3 ⊢
  generalize zH0 w.2 0 (w32 ((i : Int) + 4)) = a4 at r4 ⊢
  generalize zH0 w.2 0 (w32 ((i : Int) + 5)) = a5 at r5 ⊢
  have hT := hR.2.2.2.1
  obtain ⟨t1, t2, t3, t4⟩ := hT
  have e20 : w32 (H 33 8 + 20) = H 33 8 + 20 := w32_id (by omega)
  by_cases h20 : H 33 8 + 20 ≤ 400
  · obtain ⟨n, hn⟩ : ∃ n : Nat, H 33 8 = n := ⟨(H 33 8).toNat, by omega⟩
    obtain ⟨H1, g1, e1⟩ := c11 (w := w) (d := 1998) (x := a1) (zfd_st (f := id) (A := 34) hn) (by show n + 0 + 4 ≤ 400; omega)
    obtain ⟨H2, g2, e2⟩ := c11 (w := w) (d := 1998) (x := a2) g1 (by simp only [List.length_append, List.length_nil, zfb_len]; omega)
    obtain ⟨H3, g3, e3⟩ := c11 (w := w) (d := 1998) (x := a3) g2 (by simp only [List.length_append, List.length_nil, zfb_len]; omega)
    obtain ⟨H4, g4, e4⟩ := c11 (w := w) (d := 1998) (x := a4) g3 (by simp only [List.length_append, List.length_nil, zfb_len]; omega)
    obtain ⟨H5, g5, e5⟩ := c11 (w := w) (d := 1998) (x := a5) g4 (by simp only [List.length_append, List.length_nil, zfb_len]; omega)
    have m31 : H5 81 31 = (n : Int) := by rw [g5.2.2.2 81 31 (by decide) (by omega), ← t1]; exact hn
    obtain ⟨M1, m1, f1⟩ := c276 (w := w) (d := 1998) r1 (zfd_st (f := zi8) (A := 99) (H := zup H5 81 1 0) (by rw [zq_ne (by omega)]; exact m31)) (by show n + 0 + 4 ≤ 400; omega)
    obtain ⟨M2, m2, f2⟩ := c276 (w := w) (d := 1998) r2 m1 (by simp only [List.length_append, List.length_nil, zfb_len]; omega)
    obtain ⟨M3, m3, f3⟩ := c276 (w := w) (d := 1998) r3 m2 (by simp only [List.length_append, List.length_nil, zfb_len]; omega)
    obtain ⟨M4, m4, f4⟩ := c276 (w := w) (d := 1998) r4 m3 (by simp only [List.length_append, List.length_nil, zfb_len]; omega)
    obtain ⟨M5, m5, f5⟩ := c276 (w := w) (d := 1998) r5 m4 (by simp only [List.length_append, List.length_nil, zfb_len]; omega)
    refine x10_0 (d := 1998) ⟨fun _ => ?_, fun q => by omega⟩
    rw [e1, e2, e3, e4, e5]
    refine x275_0 (d := 1998) ⟨fun _ => ?_, fun q => ?_⟩
    · rw [f1, f2, f3, f4, f5]
      have exy : H5 33 8 = M5 81 31 := by rw [g5.1, m5.1]
      refine ⟨fun _ => nx M5 ?_, fun z => absurd exy z⟩
      have fr : ∀ a j : Int, a ≠ 34 → a ≠ 99 → ¬ (a = 33 ∧ j = 8) → ¬ (a = 81 ∧ (j = 31 ∨ j = 1)) → M5 a j = H a j := fun a j q1 q2 q3 q4 => by
        rw [m5.2.2.2 a j q2 (by omega), zq_ne (by omega), g5.2.2.2 a j q1 q3]
      refine ⟨by rw [fr 32 14 (by decide) (by decide) (by omega) (by omega), fr 81 0 (by decide) (by decide) (by omega) (by omega)]; exact hR.1, zAllR_t fr ?_ hR.2⟩
      generalize hB : [] ++ zfb a1 ++ zfb a2 ++ zfb a3 ++ zfb a4 ++ zfb a5 = B at g5 m5
      have hBl : B.length = 20 := by rw [← hB]; rfl
      have hBi : ∀ k : Nat, k < 20 → 0 ≤ B.getD k 0 ∧ B.getD k 0 ≤ 255 := fun k hk => by
        have hm : B.getD k 0 ∈ B := by
          rw [List.getD_eq_getElem?_getD, List.getElem?_eq_getElem (by omega)]; exact List.getElem_mem _
        generalize B.getD k 0 = b at hm ⊢
        rw [← hB] at hm
        simp only [List.mem_append, List.not_mem_nil, false_or] at hm
        rcases hm with (((q | q) | q) | q) | q
        · exact zfb_in r1 q
        · exact zfb_in r2 q
        · exact zfb_in r3 q
        · exact zfb_in r4 q
        · exact zfb_in r5 q
      have l8 : M5 33 8 = ((n + 20 : Nat) : Int) := by rw [m5.2.2.2 33 8 (by decide) (by omega), zq_ne (by omega), g5.1, hBl]
      refine ⟨by rw [l8, m5.1, hBl], by rw [l8]; omega, by rw [l8]; omega, fun k hk => ?_⟩
      rw [l8] at hk
      rw [m5.2.2.2 34 k (by decide) (by omega), zq_ne (by omega)]
      by_cases z : k < n
      · rw [g5.2.1 k z, m5.2.1 k z, zq_ne (by omega), g5.2.2.2 99 k (by decide) (by omega)]
        exact t4 k (by omega)
      · obtain ⟨m, rfl⟩ : ∃ m : Nat, k = n + m := ⟨k - n, by omega⟩
        rw [g5.2.2.1 m (by omega), m5.2.2.1 m (by omega)]
        exact ⟨(hBi m (by omega)).1, (hBi m (by omega)).2, rfl⟩
    · rw [m31, w32_id (by omega)] at q; omega
  · refine x10_0 (d := 1998) ⟨fun q => by omega, fun _ => x275_0 (d := 1998) ⟨fun q => ?_, fun _ => ⟨fun _ => nx _ ⟨?_, ?_⟩, fun z => absurd rfl z⟩⟩⟩
    · rw [← t1] at q; omega
    · rw [zq_ne (by omega), zq_ne (by omega)]; exact hR.1
    · exact zAllR_k (zRk_of (zkeep_up rfl zkeep_rfl)) hR.2)
end Z62
