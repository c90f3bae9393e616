/-! the law's look at a row: what a row is -/
theorem zplc_v : ∀ {v : Int} {l : List Int} {k : Int}, 0 ≤ k → (zplc v l k = -1 ∧ ∀ i : Nat, i < l.length → l.getD i 0 ≠ v) ∨ ∃ i : Nat, i < l.length ∧ zplc v l k = k + i ∧ l.getD i 0 = v
  | v, [], k, _ => Or.inl ⟨rfl, fun i hi => absurd hi (Nat.not_lt_zero i)⟩
  | v, a :: l, k, hk => by
    have e : zplc v (a :: l) k = if a = v then k else zplc v l (k + 1) := rfl
    rw [e]
    by_cases z : a = v
    · rw [if_pos z]
      exact Or.inr ⟨0, Nat.succ_pos _, by omega, z⟩
    · rw [if_neg z]
      rcases zplc_v (v := v) (l := l) (k := k + 1) (by omega) with ⟨h1, h2⟩ | ⟨i, h1, h2, h3⟩
      · refine Or.inl ⟨h1, fun i hi => ?_⟩
        cases i with
        | zero => exact z
        | succ i => exact h2 i (by have : i + 1 < l.length + 1 := hi; omega)
      · exact Or.inr ⟨i + 1, by show i + 1 < l.length + 1; omega, by rw [h2]; omega, h3⟩
/-- a row as far as it goes -/
def zRwG (law bound n : Int) (vs : List Int) : Prop := 1 ≤ vs.length ∧ vs.getD 0 0 = n ∧ (∀ k : Nat, k + 1 < vs.length → vs.getD (k + 1) 0 = zsum law (vs.getD k 0).toNat ∧ vs.getD (k + 1) 0 ≤ bound ∧ 1 ≤ vs.getD k 0 ∧ vs.getD k 0 ≤ 4095) ∧ ∀ i k : Nat, i < k → k < vs.length → vs.getD k 0 ≠ vs.getD i 0
/-- a row told to its end -/
def zRwF (law bound steps n : Int) (r : List Int × Int × Int) : Prop := zRwG law bound n r.1 ∧ (r.1.length : Int) ≤ steps + 1 ∧ ((r.1.getD (r.1.length - 1) 0 = 0 ∧ r.2.1 = 0) ∨ ((1 ≤ r.1.getD (r.1.length - 1) 0 ∧ r.1.getD (r.1.length - 1) 0 ≤ 4095) ∧ ((r.2.1 = 3 ∧ (r.1.length : Int) = steps + 1) ∨ (r.2.1 = 2 ∧ bound < zsum law (r.1.getD (r.1.length - 1) 0).toNat) ∨ (r.2.1 = 1 ∧ 0 ≤ r.2.2 ∧ r.2.2 < r.1.length ∧ r.1.getD r.2.2.toNat 0 = zsum law (r.1.getD (r.1.length - 1) 0).toNat))))
theorem zRwG_add {law bound n x : Int} {vs : List Int} (h : zRwG law bound n vs) (hx : x = zsum law (vs.getD (vs.length - 1) 0).toNat) (hb : x ≤ bound) (hp : 1 ≤ vs.getD (vs.length - 1) 0 ∧ vs.getD (vs.length - 1) 0 ≤ 4095) (hn : ∀ i : Nat, i < vs.length → vs.getD i 0 ≠ x) : zRwG law bound n (vs ++ [x]) := by
  obtain ⟨h1, h2, h3, h4⟩ := h
  have hl : (vs ++ [x]).length = vs.length + 1 := by rw [List.length_append]; rfl
  refine ⟨by omega, by rw [zget_app2 (by omega)]; exact h2, fun k hk => ?_, fun i k hik hk => ?_⟩
  · rw [hl] at hk
    by_cases z : k + 1 = vs.length
    · rw [z, zget_app, zget_app2 (by omega), show k = vs.length - 1 by omega]
      exact ⟨hx, hb, hp.1, hp.2⟩
    · rw [zget_app2 (by omega), zget_app2 (by omega)]
      exact h3 k (by omega)
  · rw [hl] at hk
    by_cases z : k = vs.length
    · rw [z, zget_app, zget_app2 (by omega)]
      exact (hn i (by omega)).symm
    · rw [zget_app2 (by omega), zget_app2 (by omega)]
      exact h4 i k hik (by omega)
theorem zgoes_F {law bound steps n : Int} (hl : 0 ≤ law ∧ law ≤ 3) (hb : 0 ≤ bound ∧ bound ≤ 4095) : ∀ (s : Nat) (vs : List Int), zRwG law bound n vs → (1 ≤ vs.getD (vs.length - 1) 0 ∧ vs.getD (vs.length - 1) 0 ≤ 4095) → (vs.length : Int) + s = steps + 1 → (∀ k : Nat, k < vs.length → 1 ≤ vs.getD k 0) → zRwF law bound steps n (zgoes law bound s vs)
  | 0, vs, h, hp, hs, _ => ⟨h, by show (vs.length : Int) ≤ steps + 1; omega, Or.inr ⟨hp, Or.inl ⟨rfl, by show (vs.length : Int) = steps + 1; omega⟩⟩⟩
  | s + 1, vs, h, hp, hs, h1 => by
    have hr : 0 ≤ zsum law (vs.getD (vs.length - 1) 0).toNat := (zsum_r (by omega) (by omega) (zfac_good ((0, fun _ => 0, []) : zWt) (by omega) (by omega)) hl).1
    have hle : (vs.length : Int) ≤ steps + 1 := by omega
    unfold zgoes
    have hx : zsum law (vs.getD (vs.length - 1) 0).toNat = zsum law (vs.getD (vs.length - 1) 0).toNat := rfl
    generalize hxx : zsum law (vs.getD (vs.length - 1) 0).toNat = x at hr ⊢
    have hp3 := h.1
    rcases zplc_v (v := x) (l := vs) (k := 0) (by decide) with ⟨p1, p2⟩ | ⟨i, p1, p2, p3⟩
    · rw [if_neg (fun z => z p1)]
      by_cases c2 : bound < x
      · rw [if_pos c2]
        exact ⟨h, hle, Or.inr ⟨hp, Or.inr (Or.inl ⟨rfl, by show bound < zsum law (vs.getD (vs.length - 1) 0).toNat; rw [hxx]; exact c2⟩)⟩⟩
      · rw [if_neg c2]
        have hl2 : ∀ y : Int, (vs ++ [y]).length = vs.length + 1 := fun y => by rw [List.length_append]; rfl
        by_cases c3 : x = 0
        · rw [if_pos c3]
          subst c3
          refine ⟨zRwG_add h hxx.symm hb.1 hp p2, ?_, Or.inl ⟨?_, rfl⟩⟩
          · show ((vs ++ [0]).length : Int) ≤ steps + 1
            rw [hl2]; omega
          · show (vs ++ [0]).getD ((vs ++ [0]).length - 1) 0 = 0
            rw [hl2, Nat.add_sub_cancel, zget_app]
        · rw [if_neg c3]
          refine zgoes_F hl hb s (vs ++ [x]) (zRwG_add h hxx.symm (by omega) hp p2) ?_ (by rw [hl2]; omega) (fun k hk => ?_)
          · rw [hl2, Nat.add_sub_cancel, zget_app]; omega
          · rw [hl2] at hk
            by_cases z : k = vs.length
            · rw [z, zget_app]; omega
            · rw [zget_app2 (by omega)]; exact h1 k (by omega)
    · rw [if_pos (by rw [p2]; omega)]
      refine ⟨h, hle, Or.inr ⟨hp, Or.inr (Or.inr ⟨rfl, ?_, ?_, ?_⟩)⟩⟩
      · show 0 ≤ zplc x vs 0
        omega
      · show zplc x vs 0 < vs.length
        omega
      · show vs.getD (zplc x vs 0).toNat 0 = zsum law (vs.getD (vs.length - 1) 0).toNat
        rw [hxx, p2, show ((0 : Int) + (i : Int)).toNat = i by omega]; exact p3
theorem zrow_F {law bound steps n : Int} (hl : 0 ≤ law ∧ law ≤ 3) (hb : 0 ≤ bound ∧ bound ≤ 4095) (hs : 0 ≤ steps) (hn : 1 ≤ n ∧ n ≤ 4095) : zRwF law bound steps n (zrow law bound steps n) := by
  refine zgoes_F hl hb steps.toNat [n] ⟨Nat.le_refl 1, rfl, fun k hk => ?_, fun i k hik hk => ?_⟩ hn ?_ (fun k hk => ?_)
  · have : k + 1 < 1 := hk
    omega
  · have : k < 1 := hk
    omega
  · show ((1 : Nat) : Int) + (steps.toNat : Int) = steps + 1
    omega
  · have : k = 0 := by have : k < 1 := hk; omega
    subst this
    exact hn.1
/-- the least of the round -/
theorem zlor_F {r : List Int × Int × Int} (h : 0 ≤ r.2.2 ∧ r.2.2 < r.1.length) : (∀ k : Nat, r.2.2.toNat ≤ k → k < r.1.length → zlor r ≤ r.1.getD k 0) ∧ ∃ k : Nat, r.2.2.toNat ≤ k ∧ k < r.1.length ∧ r.1.getD k 0 = zlor r := by
  unfold zlor
  obtain ⟨h1, h2, h3⟩ := zmnl_le (vs := r.1) (c := r.1.length - r.2.2.toNat) (k := r.2.2.toNat) (m := r.1.getD r.2.2.toNat 0)
  refine ⟨fun k a b => h2 k a (by omega), ?_⟩
  rcases h3 with h3 | ⟨i, a, b, e⟩
  · exact ⟨r.2.2.toNat, Nat.le_refl _, by omega, h3.symm⟩
  · exact ⟨i, a, by omega, e.symm⟩
