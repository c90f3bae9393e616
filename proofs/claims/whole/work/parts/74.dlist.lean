/-! all divisors of a number, rising; the model's order of them, the class's k-th -/
def zdlo (n : Nat) : Nat → List Nat
  | 0 => []
  | k + 1 => zdlo n k ++ (if n % (k + 1) = 0 then [k + 1] else [])
def zdhi (n : Nat) : Nat → List Nat
  | 0 => []
  | k + 1 => (if n % (k + 1) = 0 ∧ k + 1 ≠ n / (k + 1) then [n / (k + 1)] else []) ++ zdhi n k
theorem zdlo_s {n k : Nat} : zdlo n (k + 1) = zdlo n k ++ (if n % (k + 1) = 0 then [k + 1] else []) := rfl
theorem zdhi_s {n k : Nat} : zdhi n (k + 1) = (if n % (k + 1) = 0 ∧ k + 1 ≠ n / (k + 1) then [n / (k + 1)] else []) ++ zdhi n k := rfl
theorem zdlo_mem {n x : Nat} : ∀ {k : Nat}, x ∈ zdlo n k ↔ 1 ≤ x ∧ x ≤ k ∧ n % x = 0
  | 0 => ⟨fun h => (by cases h), fun h => by omega⟩
  | k + 1 => by
    rw [zdlo_s, List.mem_append, zdlo_mem]
    by_cases z : n % (k + 1) = 0
    · rw [if_pos z, List.mem_singleton]
      refine ⟨fun h => ?_, fun h => ?_⟩
      · rcases h with h | h
        · exact ⟨h.1, by omega, h.2.2⟩
        · rw [h]; exact ⟨by omega, Nat.le_refl _, z⟩
      · by_cases y : x = k + 1
        · exact Or.inr y
        · exact Or.inl ⟨h.1, by omega, h.2.2⟩
    · rw [if_neg z]
      refine ⟨fun h => ?_, fun h => ?_⟩
      · rcases h with h | h
        · exact ⟨h.1, by omega, h.2.2⟩
        · cases h
      · refine Or.inl ⟨h.1, ?_, h.2.2⟩
        have : x ≠ k + 1 := fun q => z (q ▸ h.2.2)
        omega
theorem zdlo_srt {n : Nat} : ∀ {k : Nat}, (zdlo n k).Pairwise (· < ·)
  | 0 => List.Pairwise.nil
  | k + 1 => by
    rw [zdlo_s, List.pairwise_append]
    refine ⟨zdlo_srt, ?_, fun a ha b hb => ?_⟩
    · split
      · exact List.pairwise_singleton _ _
      · exact List.Pairwise.nil
    · have := (zdlo_mem.mp ha).2.1
      split at hb
      · rw [List.mem_singleton] at hb; omega
      · cases hb
theorem zdlo_pre {n k : Nat} : ∀ {c : Nat}, ∃ t, zdlo n (k + c) = zdlo n k ++ t
  | 0 => ⟨[], (List.append_nil _).symm⟩
  | c + 1 => by
    obtain ⟨t, h⟩ := zdlo_pre (n := n) (k := k) (c := c)
    refine ⟨t ++ (if n % (k + c + 1) = 0 then [k + c + 1] else []), ?_⟩
    rw [← Nat.add_assoc, zdlo_s, h, List.append_assoc]
theorem zdlo_le {n k m : Nat} (h : k ≤ m) : ∃ t, zdlo n m = zdlo n k ++ t := by
  obtain ⟨c, rfl⟩ : ∃ c, m = k + c := ⟨m - k, by omega⟩
  exact zdlo_pre
theorem zdq {n d : Nat} (h : n % d = 0) : d * (n / d) = n := Nat.mul_div_cancel' (Nat.dvd_of_mod_eq_zero h)
theorem zdqm {n d : Nat} (h1 : 1 ≤ n) (h : n % d = 0) : 1 ≤ n / d ∧ n / d ≤ n ∧ n % (n / d) = 0 ∧ n / (n / d) = d ∧ 1 ≤ d := by
  have e := zdq h
  have hq : 1 ≤ n / d := by
    rcases Nat.eq_zero_or_pos (n / d) with z | z
    · rw [z, Nat.mul_zero] at e; omega
    · exact z
  have hd : 1 ≤ d := by
    rcases Nat.eq_zero_or_pos d with z | z
    · rw [z, Nat.zero_mul] at e; omega
    · exact z
  refine ⟨hq, Nat.div_le_self _ _, Nat.mod_eq_zero_of_dvd ⟨d, by rw [Nat.mul_comm]; exact e.symm⟩, ?_, hd⟩
  conv => lhs; lhs; rw [← e]
  exact Nat.mul_div_cancel d hq
/-- of two divisors the lesser one has the greater quotient -/
theorem zdq_lt {n a b : Nat} (h1 : 1 ≤ n) (ha : n % a = 0) (hb : n % b = 0) (h : a < b) : n / b < n / a := by
  have ea := zdq ha
  have eb := zdq hb
  obtain ⟨qa, -, -, -, -⟩ := zdqm h1 ha
  obtain ⟨qb, -, -, -, -⟩ := zdqm h1 hb
  rcases Nat.lt_or_ge (n / b) (n / a) with z | z
  · exact z
  · have h2 := Nat.mul_le_mul (show a + 1 ≤ b from h) z
    rw [Nat.add_mul, Nat.one_mul] at h2
    omega
theorem zsrt_eq : ∀ {l l' : List Nat}, l.Pairwise (· < ·) → l'.Pairwise (· < ·) → (∀ x, x ∈ l ↔ x ∈ l') → l = l'
  | [], [], _, _, _ => rfl
  | [], b :: l', _, _, h => absurd ((h b).mpr List.mem_cons_self) List.not_mem_nil
  | a :: l, [], _, _, h => absurd ((h a).mp List.mem_cons_self) List.not_mem_nil
  | a :: l, b :: l', h1, h2, h => by
    rw [List.pairwise_cons] at h1 h2
    have ha := (h a).mp List.mem_cons_self
    have hb := (h b).mpr List.mem_cons_self
    have e : a = b := by
      rcases List.mem_cons.mp ha with z | z
      · exact z
      · rcases List.mem_cons.mp hb with y | y
        · exact y.symm
        · have := h1.1 b y
          have := h2.1 a z
          omega
    subst e
    rw [zsrt_eq h1.2 h2.2 (fun x => ⟨fun hx => by
      have := h1.1 x hx
      rcases List.mem_cons.mp ((h x).mp (List.mem_cons_of_mem _ hx)) with z | z
      · omega
      · exact z, fun hx => by
      have := h2.1 x hx
      rcases List.mem_cons.mp ((h x).mpr (List.mem_cons_of_mem _ hx)) with z | z
      · omega
      · exact z⟩)]
theorem znd_le : ∀ {l l' : List Nat}, l.Nodup → (∀ x ∈ l, x ∈ l') → l.length ≤ l'.length
  | [], _, _, _ => Nat.zero_le _
  | a :: l, l', h, hs => by
    rw [List.nodup_cons] at h
    have ha := hs a List.mem_cons_self
    have h1 := znd_le (l' := l'.erase a) h.2 (fun x hx => (List.mem_erase_of_ne (fun (q : x = a) => h.1 (by rw [← q]; exact hx))).mpr (hs x (List.mem_cons_of_mem _ hx)))
    rw [List.length_erase_of_mem ha] at h1
    have := List.length_pos_of_mem ha
    rw [List.length_cons]; omega
theorem zsrt_nd {l : List Nat} (h : l.Pairwise (· < ·)) : l.Nodup := List.Pairwise.imp (fun q => Nat.ne_of_lt q) h
theorem zDs_n : ∀ {l : List (Nat × Nat)}, zDs (l.map Prod.snd) = zDn l
  | [] => rfl
  | q :: l => by
    show (q.2 + 1) * zDs (l.map Prod.snd) = (q.2 + 1) * zDn l
    rw [zDs_n]
theorem zdlo_dvd {n x : Nat} (h1 : 1 ≤ n) : x ∈ zdlo n n ↔ x ∣ n := by
  rw [zdlo_mem]
  refine ⟨fun h => Nat.dvd_of_mod_eq_zero h.2.2, fun h => ⟨Nat.pos_of_dvd_of_pos h h1, Nat.le_of_dvd h1 h, Nat.mod_eq_zero_of_dvd h⟩⟩
/-- how many there are -/
theorem zdlo_len {n : Nat} (h1 : 1 ≤ n) (hn : n ≤ 999999999) (hG : zGood n (zfac n)) : (zdlo n n).length = zDn (zfac n) ∧ (zdlo n n).length ≤ 1400 := by
  have e : (zdlo n n).length = zDs ((zfac n).map Prod.snd) := by
    rw [← zdvl_len]
    refine Nat.le_antisymm (znd_le (zsrt_nd zdlo_srt) (fun x hx => (zdvl_mem hG).mpr ((zdlo_dvd h1).mp hx))) (znd_le (zdvl_nodup hG) (fun x hx => (zdlo_dvd h1).mpr ((zdvl_mem hG).mp hx)))
  refine ⟨e.trans zDs_n, ?_⟩
  rw [e]
  exact zdivs_1400 hn hG
theorem zdhi_mem {n x : Nat} : ∀ {k : Nat}, x ∈ zdhi n k ↔ ∃ d, 1 ≤ d ∧ d ≤ k ∧ n % d = 0 ∧ d ≠ n / d ∧ x = n / d
  | 0 => ⟨fun h => (by cases h), fun ⟨d, h1, h2, _⟩ => by omega⟩
  | k + 1 => by
    rw [zdhi_s, List.mem_append, zdhi_mem]
    refine ⟨fun h => ?_, fun ⟨d, h1, h2, h3, h4, h5⟩ => ?_⟩
    · rcases h with h | ⟨d, h1, h2, h3, h4, h5⟩
      · split at h
        · rename_i z
          rw [List.mem_singleton] at h
          exact ⟨k + 1, by omega, Nat.le_refl _, z.1, z.2, h⟩
        · cases h
      · exact ⟨d, h1, by omega, h3, h4, h5⟩
    · by_cases z : d = k + 1
      · subst z
        left
        rw [if_pos ⟨h3, h4⟩, List.mem_singleton]
        exact h5
      · exact Or.inr ⟨d, h1, by omega, h3, h4, h5⟩
theorem zdhi_srt {n : Nat} (h1 : 1 ≤ n) : ∀ {k : Nat}, (zdhi n k).Pairwise (· < ·)
  | 0 => List.Pairwise.nil
  | k + 1 => by
    rw [zdhi_s, List.pairwise_append]
    refine ⟨?_, zdhi_srt h1, fun a ha b hb => ?_⟩
    · split
      · exact List.pairwise_singleton _ _
      · exact List.Pairwise.nil
    · split at ha
      · rename_i z
        rw [List.mem_singleton] at ha
        obtain ⟨d, d1, d2, d3, d4, rfl⟩ := zdhi_mem.mp hb
        rw [ha]
        exact zdq_lt h1 d3 z.1 (by omega)
      · cases ha
theorem zdhi_le {n : Nat} : ∀ {k : Nat}, (zdhi n k).length ≤ (zdlo n k).length
  | 0 => Nat.le_refl _
  | k + 1 => by
    have := zdhi_le (n := n) (k := k)
    rw [zdhi_s, zdlo_s, List.length_append, List.length_append]
    by_cases z : n % (k + 1) = 0
    · rw [if_pos z]
      split
      · show 1 + _ ≤ _ + 1; omega
      · show 0 + _ ≤ _ + 1; omega
    · rw [if_neg z, if_neg (fun q => z q.1)]
      show 0 + _ ≤ _ + 0; omega
theorem zsqrt (n : Nat) : ∃ r, r * r ≤ n ∧ n < (r + 1) * (r + 1) := by
  induction n with
  | zero => exact ⟨0, by decide, by decide⟩
  | succ n ih =>
    obtain ⟨r, h1, h2⟩ := ih
    by_cases z : n + 1 < (r + 1) * (r + 1)
    · exact ⟨r, by omega, z⟩
    · refine ⟨r + 1, by omega, ?_⟩
      have e : (r + 1 + 1) * (r + 1 + 1) = (r + 1) * (r + 1) + (r + 1) + (r + 1) + 1 := by
        rw [Nat.add_mul (r + 1) 1, Nat.mul_add (r + 1) (r + 1) 1]; omega
      omega
theorem zsq_le {n r d : Nat} (h : r * r ≤ n ∧ n < (r + 1) * (r + 1)) : d * d ≤ n ↔ d ≤ r := by
  refine ⟨fun q => ?_, fun q => Nat.le_trans (Nat.mul_le_mul q q) h.1⟩
  rcases Nat.lt_or_ge r d with z | z
  · have := Nat.mul_le_mul (show r + 1 ≤ d from z) (show r + 1 ≤ d from z)
    omega
  · exact z
/-- the model's order is the rising one -/
theorem zdlo_hi {n r : Nat} (h1 : 1 ≤ n) (h : r * r ≤ n ∧ n < (r + 1) * (r + 1)) : zdlo n r ++ zdhi n r = zdlo n n := by
  refine zsrt_eq (List.pairwise_append.mpr ⟨zdlo_srt, zdhi_srt h1, fun a ha b hb => ?_⟩) zdlo_srt (fun x => ?_)
  · obtain ⟨d, d1, d2, d3, d4, rfl⟩ := zdhi_mem.mp hb
    have ha := (zdlo_mem.mp ha).2.1
    rcases Nat.lt_or_ge r (n / d) with z | z
    · omega
    · exfalso
      have e := zdq d3
      by_cases y : d = r
      · subst y
        have h3 : d * d ≤ d * (n / d) := by omega
        have := Nat.le_of_mul_le_mul_left h3 d1
        omega
      · have h3 := Nat.mul_le_mul (show d + 1 ≤ r by omega) (Nat.le_refl r)
        have h4 := Nat.mul_le_mul (Nat.le_refl d) z
        rw [Nat.add_mul] at h3
        omega
  · rw [List.mem_append, zdlo_mem, zdlo_mem, zdhi_mem]
    refine ⟨fun q => ?_, fun q => ?_⟩
    · rcases q with q | ⟨d, d1, d2, d3, d4, rfl⟩
      · exact ⟨q.1, Nat.le_of_dvd h1 (Nat.dvd_of_mod_eq_zero q.2.2), q.2.2⟩
      · obtain ⟨a1, a2, a3, -, -⟩ := zdqm h1 d3
        exact ⟨a1, a2, a3⟩
    · rcases Nat.lt_or_ge r x with z | z
      · right
        obtain ⟨a1, a2, a3, a4, -⟩ := zdqm h1 q.2.2
        have e := zdq q.2.2
        have hd : n / x ≤ r := by
          rcases Nat.lt_or_ge r (n / x) with y | y
          · have := Nat.mul_le_mul (show r + 1 ≤ x from z) (show r + 1 ≤ n / x from y)
            omega
          · exact y
        exact ⟨n / x, a1, hd, a3, by omega, a4.symm⟩
      · exact Or.inl ⟨q.1, z, q.2.2⟩
/-- the last ones are the quotients by the first ones -/
theorem zdlo_rev {n : Nat} (h1 : 1 ≤ n) : (zdlo n n).reverse.map (fun d => n / d) = zdlo n n := by
  have hs : ((zdlo n n).reverse.map (fun d => n / d)).Pairwise (· < ·) := by
    rw [List.pairwise_map, List.pairwise_reverse]
    have e := zdlo_srt (n := n) (k := n)
    refine List.Pairwise.imp_of_mem (fun {a b} ha hb q => ?_) e
    exact zdq_lt h1 (zdlo_mem.mp ha).2.2 (zdlo_mem.mp hb).2.2 q
  refine zsrt_eq hs zdlo_srt (fun x => ?_)
  rw [List.mem_map]
  refine ⟨fun ⟨d, hd, e⟩ => ?_, fun hx => ?_⟩
  · have hd := zdlo_mem.mp (List.mem_reverse.mp hd)
    obtain ⟨a1, a2, a3, -, -⟩ := zdqm h1 hd.2.2
    rw [← e]
    exact zdlo_mem.mpr ⟨a1, a2, a3⟩
  · have hx := zdlo_mem.mp hx
    obtain ⟨a1, a2, a3, a4, -⟩ := zdqm h1 hx.2.2
    exact ⟨n / x, List.mem_reverse.mpr (zdlo_mem.mpr ⟨a1, a2, a3⟩), a4⟩
theorem zdlo_at {n k : Nat} (h1 : 1 ≤ n) (hk : k < (zdlo n n).length) : (zdlo n n).getD k 0 = n / (zdlo n n).getD ((zdlo n n).length - 1 - k) 0 := by
  have e : (zdlo n n).getD k 0 = ((zdlo n n).reverse.map (fun d => n / d)).getD k 0 := by rw [zdlo_rev h1]
  rw [e, List.getD_eq_getElem?_getD, List.getD_eq_getElem?_getD, List.getElem?_map, List.getElem?_reverse hk, List.getElem?_eq_getElem (by omega)]
  rfl
theorem zgetD_app {l t : List Nat} {k : Nat} (h : k < l.length) : (l ++ t).getD k 0 = l.getD k 0 := by
  rw [List.getD_eq_getElem?_getD, List.getD_eq_getElem?_getD, List.getElem?_append_left h]
