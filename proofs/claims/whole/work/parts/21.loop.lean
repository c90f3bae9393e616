/-! from the law's cases to its run -/
theorem zlo_up {H G : zHt} {o i x : Int} (ho : 32 ≤ o) (h : ∀ a j : Int, a < 32 → H a j = G a j) : ∀ a j : Int, a < 32 → zup H o i x a j = G a j := fun a j q => by
  unfold zup
  rw [if_neg (by omega)]; exact h a j q
theorem zlo_new {H G : zHt} {o : Int} {f : Int → Int} (ho : 32 ≤ o) (h : ∀ a j : Int, a < 32 → H a j = G a j) : ∀ a j : Int, a < 32 → znew H o f a j = G a j := fun a j q => by
  unfold znew
  rw [if_neg (by omega)]; exact h a j q
theorem zhi_up {H G : zHt} {o i x : Int} (h : ∀ a j : Int, 32 ≤ a → H a j = G a j) : ∀ a j : Int, 32 ≤ a → zup H o i x a j = zup G o i x a j := fun a j q => by
  unfold zup
  split
  · rfl
  · exact h a j q
theorem zhi_new {H G : zHt} {o : Int} {f : Int → Int} (h : ∀ a j : Int, 32 ≤ a → H a j = G a j) : ∀ a j : Int, 32 ≤ a → znew H o f a j = znew G o f a j := fun a j q => by
  unfold znew
  split
  · rfl
  · exact h a j q
theorem zhi_0 {xs ys : Nat → Int32} : ∀ a j : Int, 32 ≤ a → zH0 xs a j = zH0 ys a j := fun a j q => by
  unfold zH0
  simp only [if_neg (show ¬ a = 0 by omega), if_neg (show ¬ a = 1 by omega), if_neg (show ¬ (10 ≤ a ∧ a < 18) by omega)]
abbrev zX0 : Nat → Int32 := fun _ => 0
theorem zHs_lo {xs : Nat → Int32} : ∀ a j : Int, a < 32 → zHs xs a j = zH0 xs a j := by
  unfold zHs
  repeat (first | refine zlo_up (by decide) ?_ | refine zlo_new (by decide) ?_)
  exact fun _ _ _ => rfl
theorem zHs_hi0 {xs : Nat → Int32} : ∀ a j : Int, 32 ≤ a → zHs xs a j = zHs zX0 a j := by
  unfold zHs
  repeat (first | refine zhi_up ?_ | refine zhi_new ?_)
  exact zhi_0
theorem zHs_hi {xs : Nat → Int32} {a : Int} (j : Int) (h : 32 ≤ a) : zHs xs a j = zHs zX0 a j := zHs_hi0 a j h
theorem zfx_in {a j v : Int} (ha : 32 ≤ a) (h : zfx a j = some v) : (a - 32).toNat < 70 ∧ 0 ≤ j ∧ j < 44 := by
  unfold zfx at h
  have hl : ∀ q, zSH[(a - 32).toNat]? = some q → (a - 32).toNat < 70 := fun q hq => by
    rcases Nat.lt_or_ge (a - 32).toNat 70 with z | z
    · exact z
    · rw [List.getElem?_eq_none (by exact z)] at hq; cases hq
  have hg : ∀ l : List (Option Int), l.length ≤ 44 → (if 0 ≤ j then l.getD j.toNat none else none) = some v → 0 ≤ j ∧ j < 44 := fun l hl hq => by
    split at hq
    · rename_i h0
      refine ⟨h0, ?_⟩
      rcases Nat.lt_or_ge j.toNat 44 with z | z
      · omega
      · rw [List.getD_eq_getElem?_getD, List.getElem?_eq_none (by omega)] at hq; cases hq
    · cases hq
  split at h
  · rename_i hq; refine ⟨hl _ hq, ?_⟩; split at h
    · omega
    · cases h
  · rename_i hq; refine ⟨hl _ hq, ?_⟩; split at h
    · omega
    · cases h
  · rename_i hq; refine ⟨hl _ hq, ?_⟩; split at h
    · omega
    · cases h
  · rename_i hq; refine ⟨hl _ hq, ?_⟩; split at h
    · omega
    · cases h
  · rename_i hq; refine ⟨hl _ hq, ?_⟩; split at h
    · omega
    · cases h
  · rename_i hq; exact ⟨hl _ hq, hg _ (by decide) h⟩
  · rename_i hq; exact ⟨hl _ hq, hg _ (by decide) h⟩
  · rename_i hq; refine ⟨hl _ hq, ?_⟩; split at h
    · omega
    · cases h
  · cases h
set_option maxRecDepth 20000 in
theorem zHs_fx0 : (List.range 70).all (fun a => (List.range 44).all (fun j => match zfx (32 + (a : Int)) (j : Int) with | some v => decide (zHs zX0 (32 + (a : Int)) (j : Int) = v) | none => true)) = true := by decide +kernel
theorem zM_boot {L : Nat} {xs : Nat → Int32} : zM (L, xs) (zHs xs) = zHs xs := by
  funext a j
  unfold zM
  split
  · rename_i h; exact (zHs_lo a j h).symm
  · rename_i h
    split
    · rename_i v hv
      have h32 : 32 ≤ a := by omega
      obtain ⟨h1, h2, h3⟩ := zfx_in h32 hv
      have e := List.all_eq_true.mp (List.all_eq_true.mp zHs_fx0 (a - 32).toNat (List.mem_range.mpr h1)) j.toNat (List.mem_range.mpr (by omega))
      rw [show (32 : Int) + ((a - 32).toNat : Int) = a by omega, show (j.toNat : Int) = j by omega, hv] at e
      rw [zHs_hi j h32]
      exact (of_decide_eq_true e).symm
    · rfl
theorem z_run {L : Nat} {xs : Nat → Int32} (h : zgo (L, xs) 2000 0 18 [zR 0, zR 32, zR 81, zI 0] [] (zHs xs) (zQI fun x _ => x = 1)) : zRun L xs := by
  obtain ⟨n, r, H', hex, -, x, rfl, rfl⟩ := h
  have e : zS (L, xs) (zHs xs) = (L, zSH, zHs xs) := by unfold zS; rw [zM_boot]
  rw [e] at hex
  obtain ⟨n2, r2, S2, h2, rfl, rfl⟩ := z_boot (L := L) (xs := xs) (Q := fun r S => r = zI 1 ∧ S = zS (L, xs) H') ⟨n, _, _, hex, rfl, rfl⟩
  exact ⟨n2, _, h2, (by show zSH.length ≤ 600000; decide), (by show (zSH.map Prod.snd).sum ≤ 7302250; decide)⟩
/-- a case of the law -/
def zLaw (w : zWt) (R : zHt → Prop) (p : Nat) : Prop := ∀ (H : zHt) (i : Nat), i + 6 ≤ w.1 → R H → ∀ K : Int → zHt → Prop, (∀ H', R H' → zgo w 2000 0 2245 [zR 0, zR 32, zR 81, zI i] [] H' (zQI K)) → zgo w 2000 0 p [zR 0, zR 32, zR 81, zI i] [] H (zQI K)
def zcases : List Nat := [280, 293, 356, 379, 402, 425, 468, 492, 515, 548, 581, 604, 638, 671, 724, 767, 810, 843, 876, 899, 932, 992, 1035, 1058, 1091, 1124, 1167, 1190, 1223, 1246, 1279, 1312, 1345, 1379, 1412, 1445, 1478, 1521, 1554, 1597, 1640, 1663, 1706, 1759, 1812, 1855, 1898, 1941, 1974, 2018, 2041, 2074, 2097, 2120, 2153, 2186, 2209, 2232]
theorem z_loop {w : zWt} {R : zHt → Prop} (hw : w.1 ≤ 3072) (h : ∀ p ∈ zcases, zLaw w R p) : ∀ (n i : Nat) (H : zHt), w.1 + 6 ≤ i + n → i ≤ w.1 + 6 → R H → zgo w 2000 0 18 [zR 0, zR 32, zR 81, zI i] [] H (zQI fun x _ => x = 1) := by
  intro n
  induction n with
  | zero =>
    intro i H hn hi hR
    have e : w32 ((w.1 : Int) - 6) = (w.1 : Int) - 6 := w32_id (by omega)
    exact x0_18 (d := 1999) ⟨fun _ => rfl, fun q => by rw [e] at q; omega⟩
  | succ n ih =>
    intro i H hn hi hR
    have e : w32 ((w.1 : Int) - 6) = (w.1 : Int) - 6 := w32_id (by omega)
    refine x0_18 (d := 1999) ⟨fun _ => rfl, fun q => ?_⟩
    rw [e] at q
    have hi6 : i + 6 ≤ w.1 := by omega
    have nx : ∀ H', R H' → zgo w 2000 0 2245 [zR 0, zR 32, zR 81, zI i] [] H' (zQI fun x _ => x = 1) := fun H' hR' => by
      refine x0_2245 ?_
      rw [show w32 ((i : Int) + 6) = ((i + 6 : Nat) : Int) from w32_id (by omega)]
      exact ih (i + 6) H' (by omega) (by omega) hR'
    have g : ∀ p ∈ zcases, zgo w 2000 0 p [zR 0, zR 32, zR 81, zI i] [] H (zQI fun x _ => x = 1) := fun p hp => h p hp H i hi6 hR _ nx
    exact ⟨by omega, fun _ => nx H hR, fun _ => g 280 (by decide), fun _ => g 293 (by decide), fun _ => g 356 (by decide), fun _ => g 379 (by decide), fun _ => g 402 (by decide), fun _ => g 425 (by decide), fun _ => g 468 (by decide), fun _ => g 492 (by decide), fun _ => g 515 (by decide), fun _ => g 548 (by decide), fun _ => g 581 (by decide), fun _ => g 604 (by decide), fun _ => g 638 (by decide), fun _ => g 671 (by decide), fun _ => g 724 (by decide), fun _ => g 767 (by decide), fun _ => g 810 (by decide), fun _ => g 843 (by decide), fun _ => g 876 (by decide), fun _ => g 899 (by decide), fun _ => g 932 (by decide), fun _ => g 992 (by decide), fun _ => g 1035 (by decide), fun _ => g 1058 (by decide), fun _ => g 1091 (by decide), fun _ => g 1124 (by decide), fun _ => g 1167 (by decide), fun _ => g 1190 (by decide), fun _ => g 1223 (by decide), fun _ => g 1246 (by decide), fun _ => g 1279 (by decide), fun _ => g 1312 (by decide), fun _ => g 1345 (by decide), fun _ => g 1379 (by decide), fun _ => g 1412 (by decide), fun _ => g 1445 (by decide), fun _ => g 1478 (by decide), fun _ => g 1521 (by decide), fun _ => g 1554 (by decide), fun _ => g 1597 (by decide), fun _ => g 1640 (by decide), fun _ => g 1663 (by decide), fun _ => g 1706 (by decide), fun _ => g 1759 (by decide), fun _ => g 1812 (by decide), fun _ => g 1855 (by decide), fun _ => g 1898 (by decide), fun _ => g 1941 (by decide), fun _ => g 1974 (by decide), fun _ => g 2018 (by decide), fun _ => g 2041 (by decide), fun _ => g 2074 (by decide), fun _ => g 2097 (by decide), fun _ => g 2120 (by decide), fun _ => g 2153 (by decide), fun _ => g 2186 (by decide), fun _ => g 2209 (by decide), fun _ => g 2232 (by decide)⟩
theorem z_whole {L : Nat} {xs : Nat → Int32} {R : zHt → Prop} (hL : L ≤ 3072) (h0 : R (zHs xs)) (h : ∀ p ∈ zcases, zLaw (L, xs) R p) : zRun L xs :=
  z_run (z_loop (w := (L, xs)) hL h (L + 6) 0 (zHs xs) (by omega) (by omega) h0)
