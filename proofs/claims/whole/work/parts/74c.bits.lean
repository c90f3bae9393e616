/-! the case whole: bits of words, what is some of the divisors, their sum -/
def zbt (x : Int) (i : Nat) : Bool := (BitVec.ofInt 64 x).getLsbD i
theorem zbt_or {x y : Int} {i : Nat} : zbt (zorL x y) i = (zbt x i || zbt y i) := by
  unfold zbt zorL
  show (BitVec.ofInt 64 (Int64.ofInt x ||| Int64.ofInt y).toBitVec.toInt).getLsbD i = _
  rw [BitVec.ofInt_toInt, Int64.toBitVec_or, BitVec.getLsbD_or]
  rfl
theorem zsha (r : Fin 64) : ((((Int32.ofInt ((r.val : Nat) : Int)).toInt64 &&& 63).toBitVec).smod 64).toNat = r.val := by
  revert r; decide +kernel
theorem zshb (r : Fin 64) : ((((Int32.ofInt ((r.val : Nat) : Int)).toInt64.toUInt64 &&& Int64.toUInt64 63).toBitVec) % 64).toNat = r.val := by
  revert r; decide +kernel
theorem zbt_shl {x : Int} {r i : Nat} (hr : r < 64) (hi : i < 64) : zbt (zshlL x (r : Int)) i = (decide (r ≤ i) && zbt x (i - r)) := by
  unfold zbt zshlL
  show (BitVec.ofInt 64 (Int64.ofInt x <<< ((Int32.ofInt (r : Int)).toInt64 &&& 63)).toBitVec.toInt).getLsbD i = _
  rw [BitVec.ofInt_toInt, Int64.toBitVec_shiftLeft, BitVec.shiftLeft_eq', zsha ⟨r, hr⟩, BitVec.getLsbD_shiftLeft, decide_eq_true hi]
  by_cases z : r ≤ i
  · rw [decide_eq_true z, decide_eq_false (show ¬ i < r by omega)]
    rfl
  · rw [decide_eq_false z, decide_eq_true (show i < r by omega)]
    rfl
theorem zbt_ushr {x : Int} {r i : Nat} (hr : r < 64) : zbt (zushrL x (r : Int)) i = zbt x (r + i) := by
  unfold zbt zushrL
  show (BitVec.ofInt 64 ((Int64.ofInt x).toUInt64 >>> ((Int32.ofInt (r : Int)).toInt64.toUInt64 &&& Int64.toUInt64 63)).toBitVec.toInt).getLsbD i = _
  rw [BitVec.ofInt_toInt, UInt64.toBitVec_shiftRight, BitVec.ushiftRight_eq', zshb ⟨r, hr⟩, BitVec.getLsbD_ushiftRight]
  rfl
theorem zbt_big {x : Int} {i : Nat} (h : 64 ≤ i) : zbt x i = false := BitVec.getLsbD_of_ge _ i h
theorem zbt_0 {i : Nat} : zbt 0 i = false := by
  unfold zbt
  show (0#64).getLsbD i = false
  exact BitVec.getLsbD_zero
theorem zbt_1 {i : Nat} : zbt 1 i = decide (i = 0) := by
  unfold zbt
  show (1#64).getLsbD i = _
  rw [BitVec.getLsbD_one]
  rfl
theorem zbt_and {x : Int} : zandL x 1 = (if zbt x 0 = true then 1 else 0) := by
  unfold zbt zandL
  have t : ((Int64.ofInt x &&& Int64.ofInt 1).toBitVec).toNat = (BitVec.ofInt 64 x).toNat % 2 := by
    rw [Int64.toBitVec_and, BitVec.toNat_and]
    exact Nat.and_two_pow_sub_one_eq_mod (BitVec.ofInt 64 x).toNat 1
  show ((Int64.ofInt x &&& Int64.ofInt 1).toBitVec).toInt = _
  rw [BitVec.toInt_eq_toNat_of_lt (by rw [t]; omega), t]
  have e : (BitVec.ofInt 64 x).getLsbD 0 = decide ((BitVec.ofInt 64 x).toNat % 2 = 1) := Nat.testBit_zero _
  rw [e]
  by_cases z : (BitVec.ofInt 64 x).toNat % 2 = 1
  · rw [z]; rfl
  · rw [decide_eq_false z, if_neg (by decide)]; omega
/-- with one more divisor -/
def zstp (d : Nat) (f : Nat → Bool) : Nat → Bool := fun s => f s || (decide (d ≤ s) && f (s - d))
def zrch (l : List Nat) : Nat → Bool := l.foldl (fun f d => zstp d f) (fun s => decide (s = 0))
theorem zrch_app {l : List Nat} {d : Nat} : zrch (l ++ [d]) = zstp d (zrch l) := by
  unfold zrch; rw [List.foldl_append]; rfl
theorem zrch_le : ∀ {l : List Nat} {f : Nat → Bool} {t : Nat}, (∀ s, f s = true → s ≤ t) → ∀ s, (l.foldl (fun f d => zstp d f) f) s = true → s ≤ t + l.sum
  | [], f, t, h, s, hs => by
    have := h s hs
    rw [List.sum_nil]; omega
  | d :: l, f, t, h, s, hs => by
    have := zrch_le (l := l) (f := zstp d f) (t := t + d) (fun s q => by
      unfold zstp at q
      rw [Bool.or_eq_true, Bool.and_eq_true] at q
      rcases q with q | ⟨q1, q2⟩
      · have := h s q; omega
      · have := h _ q2
        have := of_decide_eq_true q1
        omega) s hs
    rw [List.sum_cons]; omega
theorem zrch_all : ∀ {l : List Nat} {f : Nat → Bool} {t : Nat}, f t = true → (l.foldl (fun f d => zstp d f) f) (t + l.sum) = true
  | [], f, t, h => by rw [List.sum_nil]; exact h
  | d :: l, f, t, h => by
    rw [List.sum_cons, ← Nat.add_assoc]
    refine zrch_all (l := l) (f := zstp d f) (t := t + d) ?_
    unfold zstp
    rw [decide_eq_true (show d ≤ t + d by omega), show t + d - d = t by omega, h]
    simp
theorem zsum_er {a : Nat} : ∀ {l : List Nat}, a ∈ l → l.sum = a + (l.erase a).sum
  | [], h => by cases h
  | b :: l, h => by
    by_cases z : b = a
    · subst z
      rw [List.erase_cons_head, List.sum_cons]
    · rw [List.erase_cons_tail (by simpa using z), List.sum_cons, List.sum_cons]
      rcases List.mem_cons.mp h with y | y
      · exact absurd y.symm z
      · rw [zsum_er y]; omega
theorem zsum_nd : ∀ {l l' : List Nat}, l.Nodup → l'.Nodup → (∀ x, x ∈ l ↔ x ∈ l') → l.sum = l'.sum
  | [], [], _, _, _ => rfl
  | [], b :: l', _, _, h => absurd ((h b).mpr List.mem_cons_self) List.not_mem_nil
  | a :: l, l', h1, h2, h => by
    rw [List.nodup_cons] at h1
    have ha := (h a).mp List.mem_cons_self
    rw [zsum_er ha, List.sum_cons, zsum_nd (l := l) (l' := l'.erase a) h1.2 (List.Nodup.erase a h2) (fun x => by
      rw [List.Nodup.mem_erase_iff h2]
      refine ⟨fun hx => ⟨fun q => h1.1 (q ▸ hx), (h x).mp (List.mem_cons_of_mem _ hx)⟩, fun ⟨q, hx⟩ => ?_⟩
      rcases List.mem_cons.mp ((h x).mpr hx) with y | y
      · exact absurd y q
      · exact y)]
theorem zsg_s {p : Nat} : ∀ {e : Nat}, zsg p (e + 1) = zsg p e + p ^ (e + 1)
  | 0 => by
    show zsg p 0 * p + 1 = 1 + p ^ 1
    show 1 * p + 1 = 1 + p ^ 1
    rw [Nat.one_mul, Nat.pow_one, Nat.add_comm]
  | e + 1 => by
    show zsg p (e + 1) * p + 1 = zsg p e * p + 1 + p ^ (e + 1) * p
    rw [zsg_s, Nat.add_mul]; omega
theorem zsum_map {c : Nat} : ∀ {l : List Nat}, (l.map (fun y => c * y)).sum = c * l.sum
  | [] => rfl
  | a :: l => by
    rw [List.map_cons, List.sum_cons, List.sum_cons, zsum_map, Nat.mul_add]
theorem zdvp_sum {p : Nat} {D : List Nat} : ∀ {e : Nat}, (zdvp p D e).sum = zsg p e * D.sum
  | 0 => by
    show D.sum = 1 * D.sum
    rw [Nat.one_mul]
  | e + 1 => by
    show (zdvp p D e ++ D.map (fun y => p ^ (e + 1) * y)).sum = _
    rw [List.sum_append_nat, zdvp_sum, zsum_map, zsg_s, Nat.add_mul]
theorem zdvl_sum : ∀ {l : List (Nat × Nat)}, (zdvl l).sum = zSg l
  | [] => rfl
  | q :: l => by
    show (zdvp q.1 (zdvl l) q.2).sum = zsg q.1 q.2 * zSg l
    rw [zdvp_sum, zdvl_sum]
theorem zdlo_sum {n : Nat} (h1 : 1 ≤ n) (hG : zGood n (zfac n)) : (zdlo n n).sum = zSg (zfac n) := by
  rw [← zdvl_sum]
  exact zsum_nd (zsrt_nd zdlo_srt) (zdvl_nodup hG) (fun x => (zdlo_dvd h1).trans (zdvl_mem hG).symm)
/-- none between its half and a number -/
theorem zdlo_half {n : Nat} : ∀ {c : Nat}, n / 2 + c < n → zdlo n (n / 2 + c) = zdlo n (n / 2)
  | 0, _ => rfl
  | c + 1, h => by
    rw [← Nat.add_assoc, zdlo_s, zdlo_half (by omega), if_neg, List.append_nil]
    have e : n = (n / 2 + c + 1) + (n - (n / 2 + c + 1)) := by omega
    have e2 : n % (n / 2 + c + 1) = n - (n / 2 + c + 1) := by
      conv => lhs; lhs; rw [e]
      rw [Nat.add_mod_left]
      exact Nat.mod_eq_of_lt (by omega)
    omega
theorem zdlo_last {n : Nat} (h1 : 1 ≤ n) : zdlo n n = zdlo n (n / 2) ++ [n] := by
  obtain ⟨m, rfl⟩ : ∃ m, n = m + 1 := ⟨n - 1, by omega⟩
  rw [zdlo_s, if_pos (Nat.mod_self _)]
  have := zdlo_half (n := m + 1) (c := m - (m + 1) / 2) (by omega)
  rw [show (m + 1) / 2 + (m - (m + 1) / 2) = m by omega] at this
  rw [this]
/-- the kind of a number by its divisors -/
theorem zkind_d {n : Nat} (h1 : 1 ≤ n) (hn : n ≤ 999999999) (hG : zGood n (zfac n)) : zkind2 0 n = (if (zdlo n (n / 2)).sum < n then 0 else if (zdlo n (n / 2)).sum = n then 1 else 2) ∧ (zdlo n (n / 2)).sum ≤ 511 * n := by
  have hs := zdlo_sum h1 hG
  rw [zdlo_last h1, List.sum_append_nat, List.sum_cons, List.sum_nil] at hs
  obtain ⟨g1, g2, g3, g4⟩ := zSg_b hn hG
  refine ⟨?_, by omega⟩
  have e : zsum 0 n = (((zdlo n (n / 2)).sum : Nat) : Int) := by
    unfold zsum
    by_cases z : n = 1
    · subst z
      rw [if_pos rfl]
      show (0 : Int) = (((zdlo 1 0).sum : Nat) : Int)
      rfl
    · rw [if_neg z, if_pos rfl, g1, w64_id (by omega)]; omega
  unfold zkind2
  rw [e]
  by_cases z : (zdlo n (n / 2)).sum < n
  · rw [if_pos z, if_pos (by omega)]
  · rw [if_neg z, if_neg (by omega)]
    by_cases y : (zdlo n (n / 2)).sum = n
    · rw [if_pos y, if_pos (by omega)]
    · rw [if_neg y, if_neg (by omega)]
