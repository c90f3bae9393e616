/-! all divisors of a number, by its factor list -/
def zdvp (p : Nat) (D : List Nat) : Nat → List Nat
  | 0 => D
  | e + 1 => zdvp p D e ++ D.map (fun y => p ^ (e + 1) * y)
def zdvl : List (Nat × Nat) → List Nat
  | [] => [1]
  | q :: l => zdvp q.1 (zdvl l) q.2
theorem zdvp_len {p : Nat} {D : List Nat} : ∀ {e : Nat}, (zdvp p D e).length = (e + 1) * D.length
  | 0 => by show D.length = (0 + 1) * D.length; rw [Nat.zero_add, Nat.one_mul]
  | e + 1 => by
    show (zdvp p D e ++ D.map (fun y => p ^ (e + 1) * y)).length = _
    rw [List.length_append, List.length_map, zdvp_len, Nat.add_mul (e + 1) 1, Nat.one_mul]
theorem zdvl_len : ∀ {l : List (Nat × Nat)}, (zdvl l).length = zDs (l.map Prod.snd)
  | [] => rfl
  | q :: l => by
    show (zdvp q.1 (zdvl l) q.2).length = (q.2 + 1) * zDs (l.map Prod.snd)
    rw [zdvp_len, zdvl_len]
theorem zdvp_mem {p x : Nat} {D : List Nat} : ∀ {e : Nat}, x ∈ zdvp p D e ↔ ∃ k, k ≤ e ∧ ∃ y ∈ D, x = p ^ k * y
  | 0 => ⟨fun h => ⟨0, Nat.le_refl _, x, h, by rw [Nat.pow_zero, Nat.one_mul]⟩, fun ⟨k, hk, y, hy, h⟩ => by
      have : k = 0 := by omega
      subst this
      rw [Nat.pow_zero, Nat.one_mul] at h
      subst h; exact hy⟩
  | e + 1 => by
    show x ∈ zdvp p D e ++ D.map (fun y => p ^ (e + 1) * y) ↔ _
    rw [List.mem_append, zdvp_mem]
    refine ⟨fun h => ?_, fun ⟨k, hk, y, hy, h⟩ => ?_⟩
    · rcases h with ⟨k, hk, y, hy, h⟩ | h
      · exact ⟨k, by omega, y, hy, h⟩
      · obtain ⟨y, hy, h⟩ := List.mem_map.mp h
        exact ⟨e + 1, Nat.le_refl _, y, hy, h.symm⟩
    · by_cases z : k = e + 1
      · subst z; exact Or.inr (List.mem_map.mpr ⟨y, hy, h.symm⟩)
      · exact Or.inl ⟨k, by omega, y, hy, h⟩
theorem zdvd_split {p m : Nat} (hp : zprime p) : ∀ {e x : Nat}, x ∣ p ^ e * m → ∃ k, k ≤ e ∧ ∃ y, y ∣ m ∧ x = p ^ k * y
  | 0, x, h => ⟨0, Nat.le_refl _, x, by rw [Nat.pow_zero, Nat.one_mul] at h; exact h, by rw [Nat.pow_zero, Nat.one_mul]⟩
  | e + 1, x, h => by
    by_cases z : p ∣ x
    · obtain ⟨x', rfl⟩ := z
      have h' : x' ∣ p ^ e * m := by
        rw [Nat.pow_succ, Nat.mul_comm (p ^ e) p, Nat.mul_assoc] at h
        exact Nat.dvd_of_mul_dvd_mul_left (by have := hp.1; omega) h
      obtain ⟨k, hk, y, hy, h2⟩ := zdvd_split hp h'
      exact ⟨k + 1, by omega, y, hy, by rw [h2, Nat.pow_succ, Nat.mul_comm (p ^ k) p, Nat.mul_assoc]⟩
    · have hc : Nat.Coprime (p ^ (e + 1)) x := Nat.Coprime.pow_left _ (zprime_cop hp z)
      exact ⟨0, Nat.zero_le _, x, Nat.Coprime.dvd_of_dvd_mul_left hc.symm h, by rw [Nat.pow_zero, Nat.one_mul]⟩
theorem zdvl_mem : ∀ {l : List (Nat × Nat)} {n x : Nat}, zGood n l → (x ∈ zdvl l ↔ x ∣ n)
  | [], n, x, h => by
    have : 1 = n := h.2.2
    subst this
    show x ∈ [1] ↔ _
    rw [List.mem_singleton, Nat.dvd_one]
  | (p, e) :: l, n, x, h => by
    obtain ⟨t, hp, he, -, hn, -⟩ := zGood_tail h
    show x ∈ zdvp p (zdvl l) e ↔ _
    rw [zdvp_mem, hn]
    refine ⟨fun ⟨k, hk, y, hy, h2⟩ => ?_, fun h2 => ?_⟩
    · rw [h2]
      exact Nat.mul_dvd_mul (Nat.pow_dvd_pow p hk) ((zdvl_mem t).mp hy)
    · obtain ⟨k, hk, y, hy, h3⟩ := zdvd_split hp h2
      exact ⟨k, hk, y, (zdvl_mem t).mpr hy, h3⟩
theorem zdvp_nodup {p : Nat} {D : List Nat} (hp : 2 ≤ p) (hD : D.Nodup) (hn : ∀ y ∈ D, ¬ p ∣ y) : ∀ {e : Nat}, (zdvp p D e).Nodup
  | 0 => hD
  | e + 1 => by
    have hpos : 0 < p ^ (e + 1) := Nat.pow_pos (by omega)
    show (zdvp p D e ++ D.map (fun y => p ^ (e + 1) * y)).Nodup
    rw [List.nodup_append]
    refine ⟨zdvp_nodup hp hD hn, ?_, fun a ha b hb hab => ?_⟩
    · unfold List.Nodup
      rw [List.pairwise_map]
      exact List.Pairwise.imp (fun hxy q => hxy (Nat.eq_of_mul_eq_mul_left hpos q)) hD
    · obtain ⟨k, hk, y, hy, h1⟩ := zdvp_mem.mp ha
      obtain ⟨y', hy', h2⟩ := List.mem_map.mp hb
      rw [h1, ← h2, show e + 1 = k + (e - k + 1) by omega, Nat.pow_add, Nat.mul_assoc] at hab
      have h3 := Nat.eq_of_mul_eq_mul_left (Nat.pow_pos (by omega)) hab
      exact hn y hy (by rw [h3, Nat.pow_succ, Nat.mul_comm _ p, Nat.mul_assoc]; exact Nat.dvd_mul_right _ _)
theorem zdvl_nodup : ∀ {l : List (Nat × Nat)} {n : Nat}, zGood n l → (zdvl l).Nodup
  | [], _, _ => by show [1].Nodup; simp
  | (p, e) :: l, n, h => by
    obtain ⟨t, hp, he, -, -, hnd⟩ := zGood_tail h
    exact zdvp_nodup hp.1 (zdvl_nodup t) (fun y hy q => hnd (Nat.dvd_trans q ((zdvl_mem t).mp hy)))
