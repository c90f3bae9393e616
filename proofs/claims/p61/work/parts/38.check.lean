/-! the class's sums are the law's: a finite look at all numbers below 4096 -/
def zsumL (law : Int) (n : Nat) (l : List (Nat × Nat)) : Int := if n = 1 then 0 else if law = 0 then w64 (zall l - n) else if law = 2 then w64 (w64 (zall l - n) - 1) else zsre law n (l.foldl (zsst law) (1, 1))
theorem zsum_L {law : Int} {n : Nat} : zsum law n = zsumL law n (zfac n) := rfl
noncomputable def zexp (f : Nat) : Nat → Nat → Nat := Nat.rec (motive := fun _ => Nat → Nat → Nat) (fun _ _ => 0) (fun _ ih n p => cond (Nat.beq (n % p) 0) (ih (n / p) p + 1) 0) f
noncomputable def zflg (f : Nat) : Nat → Nat → List (Nat × Nat) := Nat.rec (motive := fun _ => Nat → Nat → List (Nat × Nat)) (fun _ _ => []) (fun _ ih n p => cond (Nat.ble (p * p) n) (cond (Nat.beq (n % p) 0) ((p, zexp 12 n p) :: ih (n / p ^ zexp 12 n p) (p + 1)) (ih n (p + 1))) (cond (Nat.beq n 1) [] [(n, 1)])) f
noncomputable def zfl (n : Nat) : List (Nat × Nat) := zflg 70 n 2
noncomputable def zprb (f : Nat) : Nat → Nat → Bool := Nat.rec (motive := fun _ => Nat → Nat → Bool) (fun _ _ => false) (fun _ ih p d => cond (Nat.ble (d * d) p) (cond (Nat.beq (p % d) 0) false (ih p (d + 1))) true) f
theorem zprb_ok {p : Nat} (hp : 2 ≤ p) : ∀ {f d : Nat}, zfree d p → 1 ≤ d → zprb f p d = true → zprime p
  | 0, _, _, _, h => by cases h
  | f + 1, d, hf, hd, h => by
    have e : zprb (f + 1) p d = cond (Nat.ble (d * d) p) (cond (Nat.beq (p % d) 0) false (zprb f p (d + 1))) true := rfl
    rw [e] at h
    cases h1 : Nat.ble (d * d) p with
    | false =>
      refine zfree_rest hp hf ?_
      rcases Nat.lt_or_ge p (d * d) with z | z
      · exact z
      · rw [Nat.ble_eq_true_of_le z] at h1; cases h1
    | true =>
      rw [h1] at h
      cases h2 : Nat.beq (p % d) 0 with
      | true => rw [h2] at h; cases h
      | false =>
        rw [h2] at h
        refine zprb_ok hp (zfree_succ hf (fun z => ?_)) (by omega) h
        rw [Nat.mod_eq_zero_of_dvd z] at h2
        cases h2
def zsrb : List (Nat × Nat) → Bool
  | [] => true
  | a :: l => l.all (fun b => Nat.ble (a.1 + 1) b.1) && zsrb l
theorem zsrb_ok : ∀ {l : List (Nat × Nat)}, zsrb l = true → (l.map Prod.fst).Pairwise (· < ·)
  | [], _ => List.Pairwise.nil
  | a :: l, h => by
    have h : (l.all (fun b => Nat.ble (a.1 + 1) b.1) && zsrb l) = true := h
    rw [Bool.and_eq_true] at h
    refine List.Pairwise.cons (fun x hx => ?_) (zsrb_ok h.2)
    obtain ⟨b, hb, rfl⟩ := List.mem_map.mp hx
    exact Nat.le_of_ble_eq_true (List.all_eq_true.mp h.1 b hb)
noncomputable def zgdB (n : Nat) (l : List (Nat × Nat)) : Bool := zsrb l && l.all (fun q => Nat.ble 2 q.1 && zprb 70 q.1 2 && Nat.ble 1 q.2) && Nat.beq (zprod l) n
theorem zgdB_ok {n : Nat} {l : List (Nat × Nat)} (h : zgdB n l = true) : zGood n l := by
  unfold zgdB at h
  rw [Bool.and_eq_true, Bool.and_eq_true] at h
  refine ⟨zsrb_ok h.1.1, fun q hq => ?_, Nat.eq_of_beq_eq_true h.2⟩
  have := List.all_eq_true.mp h.1.2 q hq
  rw [Bool.and_eq_true, Bool.and_eq_true] at this
  have h2 := Nat.le_of_ble_eq_true this.1.1
  exact ⟨zprb_ok h2 (fun d a b => by omega) (by decide) this.1.2, Nat.le_of_ble_eq_true this.2⟩
/-- the sum of those of the list that the law takes -/
def zfs (law n : Nat) : List Nat → Nat
  | [] => 0
  | d :: l => (if zPL law n d = true then d else 0) + zfs law n l
theorem zfs_app {law n : Nat} : ∀ {a b : List Nat}, zfs law n (a ++ b) = zfs law n a + zfs law n b
  | [], b => by show zfs law n b = 0 + _; omega
  | d :: a, b => by
    show (if zPL law n d = true then d else 0) + zfs law n (a ++ b) = (if zPL law n d = true then d else 0) + zfs law n a + zfs law n b
    rw [zfs_app]; omega
theorem zfs_lo {law n : Nat} : ∀ {k : Nat}, zfs law n (zdlo n k) = zSo law n k
  | 0 => rfl
  | k + 1 => by
    have hs : zSo law n (k + 1) = zSo law n k + (if n % (k + 1) = 0 ∧ zPL law n (k + 1) = true then k + 1 else 0) := rfl
    rw [zdlo_s, zfs_app, zfs_lo, hs]
    congr 1
    by_cases h : n % (k + 1) = 0
    · rw [if_pos h]
      show (if zPL law n (k + 1) = true then k + 1 else 0) + 0 = _
      by_cases g : zPL law n (k + 1) = true
      · rw [if_pos g, if_pos ⟨h, g⟩]
      · rw [if_neg g, if_neg (fun z => g z.2)]
    · rw [if_neg h, if_neg (fun z => h z.1)]; rfl
def zsx (law n : Nat) : Nat → Nat
  | 0 => 0
  | k + 1 => zsx law n k + cond (Nat.beq (n % (k + 1)) 0) (cond (zPL law n (k + 1)) (k + 1) 0 + cond (Nat.beq (k + 1) (n / (k + 1))) 0 (cond (zPL law n (n / (k + 1))) (n / (k + 1)) 0)) 0
theorem zcn_if {b : Bool} {x : Nat} : cond b x 0 = (if b = true then x else 0) := by cases b <;> rfl
theorem zsx_e {law n : Nat} : ∀ {k : Nat}, zsx law n k = zfs law n (zdlo n k) + zfs law n (zdhi n k)
  | 0 => rfl
  | k + 1 => by
    have e : zsx law n (k + 1) = zsx law n k + cond (Nat.beq (n % (k + 1)) 0) (cond (zPL law n (k + 1)) (k + 1) 0 + cond (Nat.beq (k + 1) (n / (k + 1))) 0 (cond (zPL law n (n / (k + 1))) (n / (k + 1)) 0)) 0 := rfl
    rw [e, zsx_e, zdlo_s, zdhi_s, zfs_app, zfs_app]
    cases h : Nat.beq (n % (k + 1)) 0 with
    | false =>
      have h' : ¬ n % (k + 1) = 0 := fun z => by rw [z] at h; cases h
      rw [if_neg h', if_neg (fun z => h' z.1)]
      show _ + 0 = _ + 0 + (0 + _)
      omega
    | true =>
      have h' := Nat.eq_of_beq_eq_true h
      rw [if_pos h']
      cases g : Nat.beq (k + 1) (n / (k + 1)) with
      | true =>
        have g' := Nat.eq_of_beq_eq_true g
        rw [if_neg (fun z => z.2 g')]
        show _ + (cond (zPL law n (k + 1)) (k + 1) 0 + 0) = _ + ((if zPL law n (k + 1) = true then k + 1 else 0) + 0) + (0 + _)
        rw [zcn_if]; omega
      | false =>
        have g' : k + 1 ≠ n / (k + 1) := fun z => by rw [← z] at g; rw [Nat.beq_refl] at g; cases g
        rw [if_pos ⟨h', g'⟩]
        show _ + (cond (zPL law n (k + 1)) (k + 1) 0 + cond (zPL law n (n / (k + 1))) (n / (k + 1)) 0) = _ + ((if zPL law n (k + 1) = true then k + 1 else 0) + 0) + ((if zPL law n (n / (k + 1)) = true then n / (k + 1) else 0) + 0 + _)
        rw [zcn_if, zcn_if]; omega
noncomputable def zbrF (f : Nat) : Nat → Nat → Bool := Nat.rec (motive := fun _ => Nat → Nat → Bool) (fun _ _ => true) (fun _ ih d p => cond (Nat.ble (p * p) d) (cond (Nat.beq (d % (p * p)) 0) false (ih d (p + 1))) true) f
theorem zble_f {a b : Nat} (h : ¬ a ≤ b) : Nat.ble a b = false := by
  cases e : Nat.ble a b with
  | false => rfl
  | true => exact absurd (Nat.le_of_ble_eq_true e) h
theorem zbeq_f {a b : Nat} (h : a ≠ b) : Nat.beq a b = false := by
  cases e : Nat.beq a b with
  | false => rfl
  | true => exact absurd (Nat.eq_of_beq_eq_true e) h
theorem zbrF_e : ∀ {f d p : Nat}, zbrF f d p = zbrf f d p
  | 0, _, _ => rfl
  | f + 1, d, p => by
    have e1 : zbrF (f + 1) d p = cond (Nat.ble (p * p) d) (cond (Nat.beq (d % (p * p)) 0) false (zbrF f d (p + 1))) true := rfl
    have e2 : zbrf (f + 1) d p = if d < p * p then true else if d % (p * p) = 0 then false else zbrf f d (p + 1) := rfl
    rw [e1, e2, zbrF_e]
    by_cases h : d < p * p
    · rw [if_pos h, zble_f (by omega)]; rfl
    · rw [if_neg h, Nat.ble_eq_true_of_le (by omega)]
      by_cases g : d % (p * p) = 0
      · rw [if_pos g, g]; rfl
      · rw [if_neg g, zbeq_f g]; rfl
noncomputable def zPLf (law n d : Nat) : Bool := cond (Nat.beq law 0) true (cond (Nat.beq law 1) (Nat.beq (Nat.gcd d (n / d)) 1) (cond (Nat.beq law 2) (Nat.ble 2 d) (zbrF 64 d 2)))
theorem zPLf_e {law n d : Nat} : zPLf law n d = zPL law n d := by
  unfold zPLf zPL
  by_cases h0 : law = 0
  · rw [if_pos h0, h0]; rfl
  rw [if_neg h0, zbeq_f h0]
  by_cases h1 : law = 1
  · rw [if_pos h1, h1]
    show Nat.beq (Nat.gcd d (n / d)) 1 = _
    by_cases g : Nat.gcd d (n / d) = 1
    · exact (show Nat.beq (Nat.gcd d (n / d)) 1 = true by rw [g]; rfl).trans (decide_eq_true g).symm
    · rw [zbeq_f g]; exact (decide_eq_false g).symm
  rw [if_neg h1, zbeq_f h1]
  by_cases h2 : law = 2
  · rw [if_pos h2, h2]
    show Nat.ble 2 d = _
    by_cases g : 1 < d
    · rw [Nat.ble_eq_true_of_le g, decide_eq_true g]
    · rw [zble_f (by omega), decide_eq_false g]
  rw [if_neg h2, zbeq_f h2]
  show zbrF 64 d 2 = _
  exact zbrF_e
noncomputable def zinc (law n k : Nat) : Nat := cond (zPLf law n (k + 1)) (k + 1) 0 + cond (Nat.beq (k + 1) (n / (k + 1))) 0 (cond (zPLf law n (n / (k + 1))) (n / (k + 1)) 0)
noncomputable def zsq (n : Nat) (f : Nat → Nat → Nat → Nat → Bool) (k : Nat) : Nat → Nat → Nat → Nat → Bool := Nat.rec (motive := fun _ => Nat → Nat → Nat → Nat → Bool) f (fun k ih a b c e => cond (Nat.beq (n % (k + 1)) 0) (ih (a + zinc 0 n k) (b + zinc 1 n k) (c + zinc 2 n k) (e + zinc 3 n k)) (ih a b c e)) k
theorem zsq_e {n : Nat} {f : Nat → Nat → Nat → Nat → Bool} : ∀ {k a b c e : Nat}, zsq n f k a b c e = f (a + zsx 0 n k) (b + zsx 1 n k) (c + zsx 2 n k) (e + zsx 3 n k)
  | 0, _, _, _, _ => rfl
  | k + 1, a, b, c, e => by
    have e1 : zsq n f (k + 1) a b c e = cond (Nat.beq (n % (k + 1)) 0) (zsq n f k (a + zinc 0 n k) (b + zinc 1 n k) (c + zinc 2 n k) (e + zinc 3 n k)) (zsq n f k a b c e) := rfl
    have e2 : ∀ law, zsx law n (k + 1) = zsx law n k + cond (Nat.beq (n % (k + 1)) 0) (cond (zPL law n (k + 1)) (k + 1) 0 + cond (Nat.beq (k + 1) (n / (k + 1))) 0 (cond (zPL law n (n / (k + 1))) (n / (k + 1)) 0)) 0 := fun _ => rfl
    have e3 : ∀ law, zinc law n k = cond (zPL law n (k + 1)) (k + 1) 0 + cond (Nat.beq (k + 1) (n / (k + 1))) 0 (cond (zPL law n (n / (k + 1))) (n / (k + 1)) 0) := fun law => by
      unfold zinc; rw [zPLf_e, zPLf_e]
    rw [e1, e2, e2, e2, e2]
    cases Nat.beq (n % (k + 1)) 0 with
    | false => exact zsq_e
    | true =>
      show zsq n f k (a + zinc 0 n k) (b + zinc 1 n k) (c + zinc 2 n k) (e + zinc 3 n k) = _
      rw [zsq_e, e3, e3, e3, e3]
      simp only [cond_true, Nat.add_assoc, Nat.add_comm]
noncomputable def zckf (n : Nat) (l : List (Nat × Nat)) (law s : Nat) : Bool := decide (zsumL law n l + ((cond (zPLf law n n) n 0 : Nat) : Int) = (s : Int))
noncomputable def zck1 (n r : Nat) : Bool := Nat.beq n 0 || (zgdB n (zfl n) && zsq n (fun a b c e => zckf n (zfl n) 0 a && (zckf n (zfl n) 1 b && (zckf n (zfl n) 2 c && zckf n (zfl n) 3 e))) r 0 0 0 0)
noncomputable def zckr (r : Nat) : Bool := (List.range (2 * r + 1)).all fun j => zck1 (r * r + j) r
theorem zck_0 : (List.range 4).all (fun i => zckr (0 + i)) = true := by decide +kernel
theorem zck_1 : (List.range 4).all (fun i => zckr (4 + i)) = true := by decide +kernel
theorem zck_2 : (List.range 4).all (fun i => zckr (8 + i)) = true := by decide +kernel
theorem zck_3 : (List.range 4).all (fun i => zckr (12 + i)) = true := by decide +kernel
theorem zck_4 : (List.range 4).all (fun i => zckr (16 + i)) = true := by decide +kernel
theorem zck_5 : (List.range 4).all (fun i => zckr (20 + i)) = true := by decide +kernel
theorem zck_6 : (List.range 4).all (fun i => zckr (24 + i)) = true := by decide +kernel
theorem zck_7 : (List.range 4).all (fun i => zckr (28 + i)) = true := by decide +kernel
theorem zck_8 : (List.range 4).all (fun i => zckr (32 + i)) = true := by decide +kernel
theorem zck_9 : (List.range 4).all (fun i => zckr (36 + i)) = true := by decide +kernel
theorem zck_10 : (List.range 4).all (fun i => zckr (40 + i)) = true := by decide +kernel
theorem zck_11 : (List.range 4).all (fun i => zckr (44 + i)) = true := by decide +kernel
theorem zck_12 : (List.range 4).all (fun i => zckr (48 + i)) = true := by decide +kernel
theorem zck_13 : (List.range 4).all (fun i => zckr (52 + i)) = true := by decide +kernel
theorem zck_14 : (List.range 4).all (fun i => zckr (56 + i)) = true := by decide +kernel
theorem zck_15 : (List.range 4).all (fun i => zckr (60 + i)) = true := by decide +kernel
theorem zck_r {r : Nat} (h : r < 64) : zckr r = true := by
  have e : ∀ b : Nat, (List.range 4).all (fun i => zckr (b + i)) = true → b ≤ r → r < b + 4 → zckr r = true := fun b hb h1 h2 => by
    have := List.all_eq_true.mp hb (r - b) (List.mem_range.mpr (by omega))
    rwa [show b + (r - b) = r by omega] at this
  rcases Nat.lt_or_ge r 4 with z | z
  · exact e 0 zck_0 (by omega) z
  rcases Nat.lt_or_ge r 8 with z | z
  · exact e 4 zck_1 (by omega) z
  rcases Nat.lt_or_ge r 12 with z | z
  · exact e 8 zck_2 (by omega) z
  rcases Nat.lt_or_ge r 16 with z | z
  · exact e 12 zck_3 (by omega) z
  rcases Nat.lt_or_ge r 20 with z | z
  · exact e 16 zck_4 (by omega) z
  rcases Nat.lt_or_ge r 24 with z | z
  · exact e 20 zck_5 (by omega) z
  rcases Nat.lt_or_ge r 28 with z | z
  · exact e 24 zck_6 (by omega) z
  rcases Nat.lt_or_ge r 32 with z | z
  · exact e 28 zck_7 (by omega) z
  rcases Nat.lt_or_ge r 36 with z | z
  · exact e 32 zck_8 (by omega) z
  rcases Nat.lt_or_ge r 40 with z | z
  · exact e 36 zck_9 (by omega) z
  rcases Nat.lt_or_ge r 44 with z | z
  · exact e 40 zck_10 (by omega) z
  rcases Nat.lt_or_ge r 48 with z | z
  · exact e 44 zck_11 (by omega) z
  rcases Nat.lt_or_ge r 52 with z | z
  · exact e 48 zck_12 (by omega) z
  rcases Nat.lt_or_ge r 56 with z | z
  · exact e 52 zck_13 (by omega) z
  rcases Nat.lt_or_ge r 60 with z | z
  · exact e 56 zck_14 (by omega) z
  exact e 60 zck_15 z h
theorem zrt_ex : ∀ n : Nat, ∃ r : Nat, r * r ≤ n ∧ n < (r + 1) * (r + 1)
  | 0 => ⟨0, by omega, by omega⟩
  | n + 1 => by
    obtain ⟨r, h1, h2⟩ := zrt_ex n
    rcases Nat.lt_or_ge (n + 1) ((r + 1) * (r + 1)) with z | z
    · exact ⟨r, by omega, z⟩
    · have e : (r + 1 + 1) * (r + 1 + 1) = (r + 1) * (r + 1) + 2 * r + 3 := by
        rw [Nat.mul_add, Nat.add_mul]; omega
      exact ⟨r + 1, z, by rw [e]; omega⟩
theorem zck_n {n : Nat} (h1 : 1 ≤ n) (hn : n < 4096) : zGood n (zfl n) ∧ ∀ law : Nat, law < 4 → zsum law n = (zSo law n (n - 1) : Nat) := by
  obtain ⟨r, hr1, hr2⟩ := zrt_ex n
  have hr : r < 64 := by
    rcases Nat.lt_or_ge r 64 with z | z
    · exact z
    · have := Nat.mul_le_mul z z
      omega
  have e : (r + 1) * (r + 1) = r * r + 2 * r + 1 := by rw [Nat.mul_add, Nat.add_mul]; omega
  have hc : zck1 n r = true := by
    have := List.all_eq_true.mp (zck_r hr) (n - r * r) (List.mem_range.mpr (by omega))
    rwa [show r * r + (n - r * r) = n by omega] at this
  unfold zck1 at hc
  have h0 : Nat.beq n 0 = false := by cases n with | zero => omega | succ m => rfl
  rw [h0, Bool.false_or, Bool.and_eq_true] at hc
  have hG := zgdB_ok hc.1
  refine ⟨hG, fun law hl => ?_⟩
  have hs : zsumL law n (zfl n) + ((cond (zPL law n n) n 0 : Nat) : Int) = ((zsx law n r : Nat) : Int) := by
    have h4 := hc.2
    rw [zsq_e] at h4
    simp only [Nat.zero_add] at h4
    rw [Bool.and_eq_true, Bool.and_eq_true, Bool.and_eq_true] at h4
    unfold zckf at h4
    rw [zPLf_e, zPLf_e, zPLf_e, zPLf_e] at h4
    match law, hl with
    | 0, _ => exact of_decide_eq_true h4.1
    | 1, _ => exact of_decide_eq_true h4.2.1
    | 2, _ => exact of_decide_eq_true h4.2.2.1
    | 3, _ => exact of_decide_eq_true h4.2.2.2
    | x + 4, h => omega
  rw [zsx_e, ← zfs_app, zdlo_hi h1 ⟨hr1, hr2⟩, zfs_lo] at hs
  rw [zsum_L, zfac_eq hG]
  obtain ⟨m, rfl⟩ : ∃ m, n = m + 1 := ⟨n - 1, by omega⟩
  have es : zSo law (m + 1) (m + 1) = zSo law (m + 1) m + (if (m + 1) % (m + 1) = 0 ∧ zPL law (m + 1) (m + 1) = true then m + 1 else 0) := rfl
  rw [zcn_if] at hs
  rw [Nat.add_sub_cancel]
  by_cases z : zPL law (m + 1) (m + 1) = true
  · rw [if_pos z] at hs
    rw [if_pos ⟨Nat.mod_self _, z⟩] at es
    omega
  · rw [if_neg z] at hs
    rw [if_neg (fun y => z y.2)] at es
    omega
