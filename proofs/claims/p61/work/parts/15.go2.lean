/-! more rules, in the form that the segments' program asks for -/
abbrev zQI (K : Int → zHt → Prop) : zV → zHt → Prop := fun r H' => ∃ x, r = zI x ∧ K x H'
abbrev zQL (K : Int → zHt → Prop) : zV → zHt → Prop := fun r H' => ∃ x, r = zL x ∧ K x H'
abbrev zQR (K : Int → zHt → Prop) : zV → zHt → Prop := fun r H' => ∃ x, r = zR x ∧ K x H'
abbrev zQV (K : zHt → Prop) : zV → zHt → Prop := fun r H' => r = zJ ∧ K H'
section ZQ
variable {w : zWt} {d y pc q : Nat} {ls ls' st : List zV} {H : zHt} {Q : zV → zHt → Prop} {l : List (Option zC)} {n a b : Nat} {k : Int} {e : List Int}
theorem g_putI {o x : Int} {c N : Nat} (hp : zprog.getD y [] = l) (hf : l.getD pc none = some (19, n, a, b, k, e)) (hq : pc + n = q) (hsh : zsh (zS w H) o = some (c, N)) (hc : c = a ∧ b < N ∧ 32 ≤ o) (hx : zfx o b = none) (hv : zokv (zft a b) (zI x) = true) (K : zgo w d y q ls st (zup H o b x) Q) : zgo w d y pc ls (zI x :: zR o :: st) H Q :=
  g_put hp hf hq hsh hc hx hv K
theorem g_putL {o x : Int} {c N : Nat} (hp : zprog.getD y [] = l) (hf : l.getD pc none = some (19, n, a, b, k, e)) (hq : pc + n = q) (hsh : zsh (zS w H) o = some (c, N)) (hc : c = a ∧ b < N ∧ 32 ≤ o) (hx : zfx o b = none) (hv : zokv (zft a b) (zL x) = true) (K : zgo w d y q ls st (zup H o b x) Q) : zgo w d y pc ls (zL x :: zR o :: st) H Q :=
  g_put hp hf hq hsh hc hx hv K
theorem zokv3 {x : Int} (h : x = 0 ∨ x = 1) : zokv 3 (zI x) = true := by
  rcases h with rfl | rfl <;> rfl
theorem zrecv_of {S : zHp} {b t : Nat} {o : Int} {as : List zV} {c N : Nat} (h : zsh S o = some (c, N)) (hc : (c == zin t 2) = true) : zrecv S b t (zR o :: as) = true := by
  unfold zrecv
  split
  · rfl
  · show (match zsh S o with | some (c, _) => c == zin t 2 || (zin t 2 == 90 && c == 7) | none => false) = true
    rw [h]
    show (c == zin t 2 || (zin t 2 == 90 && c == 7)) = true
    rw [hc]; rfl
theorem g_tabE {x z : Int} (hp : zprog.getD y [] = l) (hf : l.getD pc none = some (30, n, a, b, k, e)) (hz : x = z) (hx : ¬ (z < k ∨ k + e.length ≤ z)) (hq : (e.getD (z - k).toNat 0).toNat = q) (K : zgo w d y q ls st H Q) : zgo w d y pc ls (zI x :: st) H Q := by
  subst hz; exact g_tabI hp hf hx hq K
theorem g_lookE {x z : Int} (hp : zprog.getD y [] = l) (hf : l.getD pc none = some (36, n, a, b, k, e)) (hz : x = z) (hq : zlook b z e = q) (K : zgo w d y q ls st H Q) : zgo w d y pc ls (zI x :: st) H Q := by
  subst hz; exact g_look hp hf hq K
end ZQ
theorem zW_ge1 {a : Int} (h : zisW a) : 32 ≤ a + 1 := by have := zW_ge h; omega
theorem zD_ge1 {a : Int} (h : zisD a) : 32 ≤ a + 1 := by have := zD_ge h; omega
theorem zclI_eq {w : zWt} {d t : Nat} {as : List zV} {H H' : zHt} {x : Int} {K : Int → zHt → Prop} (h : ∀ K : Int → zHt → Prop, K x H' → zclI w d t as H K) : zclI w d t as H K = K x H' := by
  refine propext ⟨fun q => ?_, h K⟩
  obtain ⟨n, r, H2, -, -, ⟨x1, e1, e2, e3⟩, x2, e4, e5⟩ := zgo_det (h (fun x1 H1 => x1 = x ∧ H1 = H') ⟨rfl, rfl⟩) q
  subst e2; subst e3; subst e1
  cases e4; exact e5
theorem zclL_eq {w : zWt} {d t : Nat} {as : List zV} {H H' : zHt} {x : Int} {K : Int → zHt → Prop} (h : ∀ K : Int → zHt → Prop, K x H' → zclL w d t as H K) : zclL w d t as H K = K x H' := by
  refine propext ⟨fun q => ?_, h K⟩
  obtain ⟨n, r, H2, -, -, ⟨x1, e1, e2, e3⟩, x2, e4, e5⟩ := zgo_det (h (fun x1 H1 => x1 = x ∧ H1 = H') ⟨rfl, rfl⟩) q
  subst e2; subst e3; subst e1
  cases e4; exact e5
theorem zclR_eq {w : zWt} {d t : Nat} {as : List zV} {H H' : zHt} {x : Int} {K : Int → zHt → Prop} (h : ∀ K : Int → zHt → Prop, K x H' → zclR w d t as H K) : zclR w d t as H K = K x H' := by
  refine propext ⟨fun q => ?_, h K⟩
  obtain ⟨n, r, H2, -, -, ⟨x1, e1, e2, e3⟩, x2, e4, e5⟩ := zgo_det (h (fun x1 H1 => x1 = x ∧ H1 = H') ⟨rfl, rfl⟩) q
  subst e2; subst e3; subst e1
  cases e4; exact e5
theorem zclV_eq {w : zWt} {d t : Nat} {as : List zV} {H H' : zHt} {K : zHt → Prop} (h : ∀ K : zHt → Prop, K H' → zclV w d t as H K) : zclV w d t as H K = K H' := by
  refine propext ⟨fun q => ?_, h K⟩
  obtain ⟨n, r, H2, -, -, ⟨e1, e3⟩, e4, e5⟩ := zgo_det (h (fun H1 => H1 = H') rfl) q
  subst e3; exact e5
theorem zwk_val {w : zWt} {H : zHt} {j : Int} (h : 0 ≤ j ∧ j < 6) : zM w H 45 j = 69 + 2 * j := by
  unfold zM
  rw [if_neg (by decide)]
  have e : zfx 45 j = some (69 + 2 * j) := by
    show (if 0 ≤ j ∧ j < 6 then some (69 + 2 * j) else none) = _
    rw [if_pos h]
  rw [e]
