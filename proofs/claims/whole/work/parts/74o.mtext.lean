/-! the case load: the model's lines, its text -/
def zfMM (H H' : zHt) : Prop := ∀ a j : Int, a ≠ 83 → a ≠ 100 → ¬ (a = 81 ∧ (34 ≤ j ∧ j ≤ 39 ∨ j = 41)) → H' a j = H a j
theorem zfMM_T {H0 H H1 : zHt} (h : zfMM H0 H) (f : zfT H H1) : zfMM H0 H1 := fun a j q1 q2 q3 => (f a j q3).trans (h a j q1 q2 q3)
theorem zfMM_up {H0 H : zHt} {a j x : Int} (ha : a = 83 ∨ a = 100) (h : zfMM H0 H) : zfMM H0 (zup H a j x) := fun b i q1 q2 q3 => by
  rw [zq_ne (by omega)]; exact h b i q1 q2 q3
theorem zfMM_tr {H H1 H2 : zHt} (h1 : zfMM H H1) (h2 : zfMM H1 H2) : zfMM H H2 := fun a j q1 q2 q3 => (h2 a j q1 q2 q3).trans (h1 a j q1 q2 q3)
theorem zfMM_rfl {H : zHt} : zfMM H H := fun _ _ _ _ _ => rfl
theorem zMc_MM {T : Nat → Int} {N : Nat} {H H' : zHt} (f : zfMM H H') (h : zMc T N H) : zMc T N H' := zMc_f (fun a j q => f a j (by omega) (by omega) (by omega)) h
def zNmM (H : zHt) (l : List (List Int)) : Prop := ∀ k : Nat, k < l.length → H 100 k = zcdw 27 (l.getD k [])
theorem zMst_eq {T : Nat → Int} {N p : Nat} {L L' : List (Bool × Nat × Int)} {H : zHt} (h : zMst T N L p H) (e : zfsf T N L' = zfsf T N L) (hp : ∀ c ∈ L', 0 < c.2.2) : zMst T N L' p H := ⟨hp, by rw [e]; exact h.2⟩
theorem zDeM_f {H H' : zHt} {D : List Int × Int × Int × Int} (f : ∀ j, H' 83 j = H 83 j) (h : zDeM H 83 0 D) : zDeM H' 83 0 D := by
  unfold zDeM at h ⊢
  simp only [f]; exact h
theorem zDeM_83 {H : zHt} {D : List Int × Int × Int × Int} {n : Int} (h6 : D.1.length < 6) (h : zDeM H 83 0 D) : zDeM (zup (zup H 83 D.1.length n) 83 6 ((D.1.length + 1 : Nat) : Int)) 83 0 (D.1 ++ [n], D.2) := by
  obtain ⟨c1, c2, c3, c4, c5⟩ := h
  simp only [Int.zero_add] at c1 c2 c3 c4 c5
  refine ⟨?_, ?_, ?_, ?_, fun k hk => ?_⟩
  · rw [Int.zero_add, zq_eq]; show _ = ((D.1 ++ [n]).length : Int); rw [List.length_append]; rfl
  · rw [Int.zero_add, zq_ne (by omega), zq_ne (by omega)]; exact c2
  · rw [Int.zero_add, zq_ne (by omega), zq_ne (by omega)]; exact c3
  · rw [Int.zero_add, zq_ne (by omega), zq_ne (by omega)]; exact c4
  · have hk : k < (D.1 ++ [n]).length := hk
    rw [List.length_append] at hk
    have hk : k < D.1.length + 1 := hk
    rw [Int.zero_add, zq_ne (by omega)]
    show _ = (D.1 ++ [n]).getD k 0
    by_cases z : k = D.1.length
    · subst z
      rw [zq_eq, List.getD_eq_getElem?_getD, List.getElem?_append_right (Nat.le_refl _), Nat.sub_self]; rfl
    · rw [zq_ne (by omega), List.getD_eq_getElem?_getD, List.getElem?_append_left (by omega), ← List.getD_eq_getElem?_getD]
      exact c5 k (by omega)
def zlnR5 (T : Nat → Int) (N : Nat) (s : zSta) (p : Nat) : List (Bool × Nat × Int) := [(decide (s.1.1.length < 6), p, 5), (zisNm T N (znx T N p), znx T N p, 2), (decide (zwd T N (znx T N p) ∉ s.2), znx T N p, 4)]
section Z74o
variable {w : zWt} {d : Nat} {H : zHt} {T : Nat → Int} {N : Nat}
theorem c283t {H0 : zHt} {s : zSta} {p : Nat} (hp : p ≤ N) (hs : zOkS s) (hc : zMc T N H) (hf : zfMM H0 H) (hD : zDeM H 83 0 s.1) (hn : zNmM H s.2) (h : zMst T N (zlnR5 T N s p) (znx T N p) H) : zgo w (d + 5) 283 81 [zR 81, zI (s.1.1.length : Int), zJ] [] H (zQV fun H' => zfMM H0 H' ∧ zMst T N (zlnR5 T N s p ++ [(zisNu T N (znx T N (znx T N p)), znx T N (znx T N p), 2)] ++ [(zrgn T N (znx T N (znx T N p)) 999999999, znx T N (znx T N p), 3)]) (znx T N (znx T N (znx T N p))) H' ∧ ((zfsf T N (zlnR5 T N s p ++ [(zisNu T N (znx T N (znx T N p)), znx T N (znx T N p), 2)] ++ [(zrgn T N (znx T N (znx T N p)) 999999999, znx T N (znx T N p), 3)])).1 = 0 → zDeM H' 83 0 (s.1.1 ++ [znm T N (znx T N (znx T N p))], s.1.2) ∧ zNmM H' (s.2 ++ [zwd T N (znx T N p)]))) := by
  have b1 := znx_b (T := T) hp
  have b2 := znx_b (T := T) b1.2.1
  have hs2 := hs.2.1
  have q0 : ∀ c ∈ zlnR5 T N s p, c.2.2 ≠ 0 := fun c hc => by have := h.1 c hc; omega
  have q1 : ∀ c ∈ zlnR5 T N s p ++ [(zisNu T N (znx T N (znx T N p)), znx T N (znx T N p), 2)], c.2.2 ≠ 0 := fun c hc => by
    rcases List.mem_append.mp hc with z | z
    · exact q0 c z
    · rw [List.mem_singleton.mp z]; (first | exact (by decide : (2 : Int) ≠ 0) | exact (by decide : (3 : Int) ≠ 0) | exact (by decide : (4 : Int) ≠ 0) | exact (by decide : (5 : Int) ≠ 0) | exact (by decide : (0 : Int) < 2) | exact (by decide : (0 : Int) < 3) | exact (by decide : (0 : Int) < 4) | exact (by decide : (0 : Int) < 5))
  have z1 := zfsf_a (T := T) (N := N) (m := [(zisNu T N (znx T N (znx T N p)), znx T N (znx T N p), 2)]) q0
  have z2 := zfsf_a (T := T) (N := N) (m := [(zrgn T N (znx T N (znx T N p)) 999999999, znx T N (znx T N p), 3)]) q1
  refine x283_81 ?_
  rw [c280]
  rcases h.2 with ⟨h0, h4, ht⟩ | ⟨h0, h4, h5⟩
  · rw [if_pos h4]
    refine ⟨fun _ => ?_, fun q => absurd q (by decide)⟩
    have hall := zfsf_0 q0 h0
    unfold zlnR5 at hall
    have a1 := of_decide_eq_true (hall (decide (s.1.1.length < 6), p, 5) (by simp))
    have a2 := of_decide_eq_true (hall (zisNm T N (znx T N p), znx T N p, 2) (by simp))
    refine ⟨by omega, ?_⟩
    rw [ht.2.2.2.1 a2.1]
    have hc1 : zMc T N (zup H 100 (s.1.1.length : Int) (zcdw 27 (zwd T N (znx T N p)))) := zMc_f (fun a j q => zq_ne (by omega)) hc
    obtain ⟨H1, ⟨f1, t1⟩, e1⟩ := c278 (w := w) (d := d + 2) (H := zup H 100 (s.1.1.length : Int) (zcdw 27 (zwd T N (znx T N p)))) b2.2.1 hc1.1 hc1.2.1 (by rw [zq_ne (by omega)]; exact ht.2.2.1 (by rw [a2.1]; decide))
    rw [e1]
    have s1 : zMst T N (zlnR5 T N s p) (znx T N (znx T N p)) H1 := ⟨h.1, Or.inl ⟨h0, by rw [f1 81 34 (by omega), zq_ne (by omega)]; exact h4, t1⟩⟩
    obtain ⟨x, H2, ⟨f2, s2, v2⟩, e2⟩ := c287 (w := w) (d := d) (most := 999999999) s1 b2.2.1 (zMc_T (zfT_81 f1) hc1)
    rw [e2]
    have D2 : zDeM H2 83 0 s.1 := zDeM_f (fun j => by rw [f2 83 j (by omega), f1 83 j (by omega), zq_ne (by omega)]) hD
    have c6 : H2 83 6 = s.1.1.length := by have := D2.1; rw [Int.zero_add] at this; exact this
    have hv6 := hs.1.1
    refine ⟨by omega, ?_⟩
    rw [show zup H2 83 (s.1.1.length : Int) x 83 6 = (s.1.1.length : Int) by rw [zq_ne (by omega)]; exact c6, zi1 (by omega)]
    refine ⟨zfMM_up (by omega) (zfMM_up (by omega) (zfMM_T (zfMM_T (zfMM_up (by omega) hf) (zfT_81 f1)) f2)), zMst_f (fun j _ _ => by rw [zq_ne (by omega), zq_ne (by omega)]) s2, fun hz => ?_⟩
    rw [v2 hz]
    refine ⟨zDeM_83 a1 D2, fun k hk => ?_⟩
    rw [List.length_append] at hk
    have hk : k < s.2.length + 1 := hk
    rw [zq_ne (by omega), zq_ne (by omega), f2 100 k (by omega), f1 100 k (by omega)]
    by_cases z : k = s.2.length
    · rw [z, show ((s.2.length : Nat) : Int) = ((s.1.1.length : Nat) : Int) by omega, zq_eq, List.getD_eq_getElem?_getD, List.getElem?_append_right (Nat.le_refl _), Nat.sub_self]; rfl
    · rw [zq_ne (by omega), hn k (by omega), List.getD_eq_getElem?_getD, List.getD_eq_getElem?_getD, List.getElem?_append_left (by omega)]
  · rw [if_neg (by rw [h4]; exact h0)]
    refine ⟨fun q => absurd rfl q, fun _ => ?_⟩
    rw [if_neg h0] at z1
    rw [z1, if_neg h0] at z2
    refine ⟨hf, ⟨fun c hc => ?_, Or.inr ⟨by rw [z2]; exact h0, by rw [z2]; exact h4, by rw [z2]; exact h5⟩⟩, fun hz => ?_⟩
    · rcases List.mem_append.mp hc with z | z
      · rcases List.mem_append.mp z with y | y
        · exact h.1 c y
        · rw [List.mem_singleton.mp y]; show (0 : Int) < 2; decide
      · rw [List.mem_singleton.mp z]; show (0 : Int) < 3; decide
    · rw [z2] at hz; exact absurd hz h0
theorem c283l {H0 : zHt} {s : zSta} {p : Nat} {Q : zV → zHt → Prop} {K : zHt → Prop} (hQ : Q = zQV K) (hp : p ≤ N) (hs : zOkS s) (hK : ∀ H', zMc T N H' → zfMM H0 H' → zDeM H' 83 0 s.1 → zNmM H' s.2 → zMst T N (zlnR5 T N s p) (znx T N p) H' → zgo w (d + 5) 283 81 [zR 81, zI (s.1.1.length : Int), zJ] [] H' Q) : ∀ (suf pre : List (List Int)) (H : zHt), s.2 = pre ++ suf → zMc T N H → zfMM H0 H → zDeM H 83 0 s.1 → zNmM H s.2 → zMst T N [(decide (s.1.1.length < 6), p, 5), (zisNm T N (znx T N p), znx T N p, 2), (decide (zwd T N (znx T N p) ∉ pre), znx T N p, 4)] (znx T N p) H → zgo w (d + 5) 283 39 [zR 81, zI (s.1.1.length : Int), zI (pre.length : Int)] [] H Q := by
  subst hQ
  have b1 := znx_b (T := T) hp
  have hs2 := hs.2.1
  have hv6 := hs.1.1
  have qq : ∀ c ∈ zlnR5 T N s p, 0 < c.2.2 := by
    unfold zlnR5
    intro c hc
    simp only [List.mem_cons, List.not_mem_nil, or_false] at hc
    rcases hc with rfl | rfl | rfl <;> (first | exact (by decide : (2 : Int) ≠ 0) | exact (by decide : (3 : Int) ≠ 0) | exact (by decide : (4 : Int) ≠ 0) | exact (by decide : (5 : Int) ≠ 0) | exact (by decide : (0 : Int) < 2) | exact (by decide : (0 : Int) < 3) | exact (by decide : (0 : Int) < 4) | exact (by decide : (0 : Int) < 5))
  intro suf
  induction suf with
  | nil =>
    intro pre H hq hc hf hD hn h
    rw [List.append_nil] at hq
    refine x283_39 ⟨fun _ => hK H hc hf hD hn (by unfold zlnR5; rw [hq]; exact h), fun z => by rw [hq] at hs2; omega⟩
  | cons a suf ih =>
    intro pre H hq hc hf hD hn h
    have hlen : s.2.length = pre.length + (suf.length + 1) := by rw [hq, List.length_append]; rfl
    have ha : s.2.getD pre.length [] = a := by
      rw [hq, List.getD_eq_getElem?_getD, List.getElem?_append_right (Nat.le_refl _), Nat.sub_self]; rfl
    have ham : a ∈ s.2 := by rw [hq]; simp
    have hpre : ∀ x ∈ pre, x ∈ s.2 := fun x hx => by rw [hq]; exact List.mem_append.mpr (Or.inl hx)
    have g2 : ∀ c ∈ [(decide (s.1.1.length < 6), p, (5 : Int)), (zisNm T N (znx T N p), znx T N p, 2)], c.2.2 ≠ 0 := by
      intro c hc
      simp only [List.mem_cons, List.not_mem_nil, or_false] at hc
      rcases hc with rfl | rfl <;> (first | exact (by decide : (2 : Int) ≠ 0) | exact (by decide : (3 : Int) ≠ 0) | exact (by decide : (4 : Int) ≠ 0) | exact (by decide : (5 : Int) ≠ 0) | exact (by decide : (0 : Int) < 2) | exact (by decide : (0 : Int) < 3) | exact (by decide : (0 : Int) < 4) | exact (by decide : (0 : Int) < 5))
    have z0 := zfsf_a (T := T) (N := N) (m := [(decide (zwd T N (znx T N p) ∉ pre), znx T N p, 4)]) g2
    have z9 := zfsf_a (T := T) (N := N) (m := [(decide (zwd T N (znx T N p) ∉ s.2), znx T N p, 4)]) g2
    have z8 := zfsf_a (T := T) (N := N) (m := [(decide (zwd T N (znx T N p) ∉ pre ++ [a]), znx T N p, 4)]) g2
    refine x283_39 ⟨fun z => by omega, fun _ => ?_⟩
    rw [c280]
    rcases h.2 with ⟨h0, h4, ht⟩ | ⟨h0, h4, h5⟩
    · rw [if_pos h4]
      refine ⟨fun z => absurd z (by decide), fun _ => ⟨by omega, ?_⟩⟩
      have hall := zfsf_0 (fun c hc => by have := h.1 c hc; omega) h0
      have a2 := of_decide_eq_true (hall (zisNm T N (znx T N p), znx T N p, 2) (by simp))
      have a3 := of_decide_eq_true (hall (decide (zwd T N (znx T N p) ∉ pre), znx T N p, 4) (by simp))
      have he : (H 100 (pre.length : Int) = H 81 41) ↔ a = zwd T N (znx T N p) := by
        rw [hn pre.length (by omega), ha, ht.2.2.2.1 a2.1]
        exact ⟨fun e => zcdw_inj (b := 27) (by omega) (hs.2.2 a ham) (zwd_let b1.2.1) e, fun e => by rw [e]⟩
      have core : ∀ x : Int, (x ≠ 0 ↔ a ≠ zwd T N (znx T N p)) → zclV w (d + 4) 284 [zR 81, zI x, zI 4] H (fun H7 => zgo w (d + 5) 283 39 [zR 81, zI (s.1.1.length : Int), zI (w32 ((pre.length : Int) + 1))] [] H7 (zQV K)) := fun x hx => by
        obtain ⟨H1, ⟨f1, g1, s1⟩, e1⟩ := c284 (w := w) (d := d + 4) (a := x) (k := 4) (b := decide (a ≠ zwd T N (znx T N p))) h (by decide) (fun _ => ⟨fun y => decide_eq_true (hx.mp y), fun y => hx.mpr (of_decide_eq_true y)⟩)
        rw [e1, show w32 ((pre.length : Int) + 1) = ((pre ++ [a]).length : Int) by rw [w32_id (by omega), List.length_append]; simp]
        refine ih (pre ++ [a]) H1 (by rw [hq, List.append_assoc]; rfl) (zMc_T f1 hc) (zfMM_T hf f1) (zDeM_f (fun j => f1 83 j (by omega)) hD) (fun k hk => (f1 100 k (by omega)).trans (hn k hk)) (zMst_eq s1 ?_ ?_)
        · have z7 := zfsf_a (T := T) (N := N) (m := [(decide (a ≠ zwd T N (znx T N p)), znx T N p, 4)]) (l := [(decide (s.1.1.length < 6), p, 5), (zisNm T N (znx T N p), znx T N p, 2), (decide (zwd T N (znx T N p) ∉ pre), znx T N p, 4)]) (fun c hc => by have := h.1 c hc; omega)
          rw [if_pos h0] at z7
          have h00 : (zfsf T N [(decide (s.1.1.length < 6), p, (5 : Int)), (zisNm T N (znx T N p), znx T N p, 2)]).1 = 0 := by
            by_cases y : (zfsf T N [(decide (s.1.1.length < 6), p, (5 : Int)), (zisNm T N (znx T N p), znx T N p, 2)]).1 = 0
            · exact y
            · rw [if_neg y] at z0
              exact absurd ((congrArg Prod.fst z0).symm.trans h0) y
          rw [if_pos h00] at z8
          refine (z8.trans ?_).trans z7.symm
          by_cases y : a = zwd T N (znx T N p)
          · rw [zfsf_f (decide_eq_false (fun v : zwd T N (znx T N p) ∉ pre ++ [a] => v (by rw [y]; simp))), zfsf_f (decide_eq_false (fun v : a ≠ zwd T N (znx T N p) => v y))]
          · have y2 : zwd T N (znx T N p) ∉ pre ++ [a] := fun v => by
              rcases List.mem_append.mp v with v | v
              · exact a3 v
              · exact y (List.mem_singleton.mp v).symm
            rw [zfsf_t (show decide (zwd T N (znx T N p) ∉ pre ++ [a]) = true from decide_eq_true y2), zfsf_t (show decide (a ≠ zwd T N (znx T N p)) = true from decide_eq_true y)]
        · intro c hc
          simp only [List.mem_cons, List.not_mem_nil, or_false] at hc
          rcases hc with rfl | rfl | rfl <;> (first | exact (by decide : (2 : Int) ≠ 0) | exact (by decide : (3 : Int) ≠ 0) | exact (by decide : (4 : Int) ≠ 0) | exact (by decide : (5 : Int) ≠ 0) | exact (by decide : (0 : Int) < 2) | exact (by decide : (0 : Int) < 3) | exact (by decide : (0 : Int) < 4) | exact (by decide : (0 : Int) < 5))
      refine ⟨fun z => core 0 ⟨fun y => absurd rfl y, fun y => absurd (he.mp z) y⟩, fun z => core 1 ⟨fun _ y => z (he.mpr y), fun _ => by decide⟩⟩
    · rw [if_neg (by rw [h4]; exact h0)]
      refine ⟨fun _ => hK H hc hf hD hn (zMst_eq h ?_ qq), fun z => absurd rfl z⟩
      refine (show zfsf T N (zlnR5 T N s p) = _ from z9).trans ((?_ : _ = _).trans z0.symm)
      by_cases y : (zfsf T N [(decide (s.1.1.length < 6), p, (5 : Int)), (zisNm T N (znx T N p), znx T N p, 2)]).1 = 0
      · rw [if_pos y, if_pos y]
        rw [if_pos y] at z0
        by_cases v : zwd T N (znx T N p) ∈ pre
        · rw [zfsf_f (decide_eq_false (fun u => u (hpre _ v))), zfsf_f (decide_eq_false (fun u => u v))]
        · rw [zfsf_t (decide_eq_true v)] at z0
          exact absurd (congrArg Prod.fst z0) h0
      · rw [if_neg y, if_neg y]
theorem c283 {s : zSta} {p : Nat} (hp : p ≤ N) (hs : zOkS s) (hk : zkd T N p = 1) (hc : zMc T N H) (hD : zDeM H 83 0 s.1) (hn : zNmM H s.2) (h : zMst T N [] p H) : ∃ H', (zfMM H H' ∧ zMst T N (zlnR5 T N s p ++ [(zisNu T N (znx T N (znx T N p)), znx T N (znx T N p), 2)] ++ [(zrgn T N (znx T N (znx T N p)) 999999999, znx T N (znx T N p), 3)]) (znx T N (znx T N (znx T N p))) H' ∧ ((zfsf T N (zlnR5 T N s p ++ [(zisNu T N (znx T N (znx T N p)), znx T N (znx T N p), 2)] ++ [(zrgn T N (znx T N (znx T N p)) 999999999, znx T N (znx T N p), 3)])).1 = 0 → zDeM H' 83 0 (s.1.1 ++ [znm T N (znx T N (znx T N p))], s.1.2) ∧ zNmM H' (s.2 ++ [zwd T N (znx T N p)]))) ∧ ∀ K : zHt → Prop, zclV w (d + 5) 283 [zR 81] H K = K H' := by
  have b1 := znx_b (T := T) hp
  have c6 : H 83 6 = s.1.1.length := by have := hD.1; rw [Int.zero_add] at this; exact this
  have core : ∀ x : Int, (x ≠ 0 ↔ decide (s.1.1.length < 6) = true) → zclV w (d + 4) 284 [zR 81, zI x, zI 5] H (fun H2 => zclV w (d + 4) 285 [zR 81] H2 (fun H4 => zclI w (d + 4) 286 [zR 81] H4 (fun x7 H6 => zclV w (d + 4) 284 [zR 81, zI x7, zI 2] H6 (fun H8 => zgo w (d + 5) 283 39 [zR 81, zI (s.1.1.length : Int), zI 0] [] H8 (zQV fun H' => zfMM H H' ∧ zMst T N (zlnR5 T N s p ++ [(zisNu T N (znx T N (znx T N p)), znx T N (znx T N p), 2)] ++ [(zrgn T N (znx T N (znx T N p)) 999999999, znx T N (znx T N p), 3)]) (znx T N (znx T N (znx T N p))) H' ∧ ((zfsf T N (zlnR5 T N s p ++ [(zisNu T N (znx T N (znx T N p)), znx T N (znx T N p), 2)] ++ [(zrgn T N (znx T N (znx T N p)) 999999999, znx T N (znx T N p), 3)])).1 = 0 → zDeM H' 83 0 (s.1.1 ++ [znm T N (znx T N (znx T N p))], s.1.2) ∧ zNmM H' (s.2 ++ [zwd T N (znx T N p)]))))))) := fun x hx => by
    obtain ⟨H1, ⟨f1, g1, s1⟩, e1⟩ := c284 (w := w) (d := d + 4) (a := x) (k := 5) (b := decide (s.1.1.length < 6)) h (by decide) (fun _ => hx)
    rw [e1]
    obtain ⟨H2, ⟨f2, s2⟩, e2⟩ := c285 (w := w) (d := d + 1) s1 (fun _ => by rw [hk]; decide) hp (zMc_T f1 hc)
    rw [e2, c286 s2 b1.2.1 (zMc_T f2 (zMc_T f1 hc))]
    obtain ⟨H3, ⟨f3, g3, s3⟩, e3⟩ := c284 (w := w) (d := d + 4) (a := if (zfsf T N ([] ++ [(decide (s.1.1.length < 6), p, 5)])).1 = 0 ∧ zisNm T N (znx T N p) = true then 1 else 0) (k := 2) (b := zisNm T N (znx T N p)) s2 (by decide) (fun h0 => by
      by_cases y : zisNm T N (znx T N p) = true
      · rw [if_pos ⟨h0, y⟩]; exact ⟨fun _ => y, fun _ => by decide⟩
      · rw [if_neg (fun v => y v.2)]; exact ⟨fun v => absurd rfl v, fun v => absurd v y⟩)
    rw [e3]
    have F3 : zfMM H H3 := zfMM_T (zfMM_T (zfMM_T zfMM_rfl f1) f2) f3
    have z0 := zfsf_a (T := T) (N := N) (m := [(decide (zwd T N (znx T N p) ∉ ([] : List (List Int))), znx T N p, 4)]) (l := [(decide (s.1.1.length < 6), p, (5 : Int)), (zisNm T N (znx T N p), znx T N p, 2)]) (by
      intro c hc
      simp only [List.mem_cons, List.not_mem_nil, or_false] at hc
      rcases hc with rfl | rfl <;> (first | exact (by decide : (2 : Int) ≠ 0) | exact (by decide : (3 : Int) ≠ 0) | exact (by decide : (4 : Int) ≠ 0) | exact (by decide : (5 : Int) ≠ 0) | exact (by decide : (0 : Int) < 2) | exact (by decide : (0 : Int) < 3) | exact (by decide : (0 : Int) < 4) | exact (by decide : (0 : Int) < 5)))
    refine c283l (H0 := H) rfl hp hs (fun H' a1 a2 a3 a4 a5 => c283t hp hs a1 a2 a3 a4 a5) s.2 [] H3 rfl (zMc_MM F3 hc) F3 (zDeM_f (fun j => by rw [f3 83 j (by omega), f2 83 j (by omega), f1 83 j (by omega)]) hD) (fun k hk => by rw [f3 100 k (by omega), f2 100 k (by omega), f1 100 k (by omega)]; exact hn k hk) (zMst_eq s3 ?_ ?_)
    · refine (show zfsf T N [(decide (s.1.1.length < 6), p, 5), (zisNm T N (znx T N p), znx T N p, 2), (decide (zwd T N (znx T N p) ∉ ([] : List (List Int))), znx T N p, 4)] = _ from z0).trans ?_
      show _ = zfsf T N [(decide (s.1.1.length < 6), p, (5 : Int)), (zisNm T N (znx T N p), znx T N p, 2)]
      split
      · rename_i y
        rw [zfsf_t (show decide (zwd T N (znx T N p) ∉ ([] : List (List Int))) = true from decide_eq_true List.not_mem_nil)]
        have e0 : (zfsf T N [(decide (s.1.1.length < 6), p, (5 : Int)), (zisNm T N (znx T N p), znx T N p, 2)]) = (0, 0) := by
          have hall := zfsf_0 (T := T) (N := N) (by
            intro c hc
            simp only [List.mem_cons, List.not_mem_nil, or_false] at hc
            rcases hc with rfl | rfl <;> (first | exact (by decide : (2 : Int) ≠ 0) | exact (by decide : (3 : Int) ≠ 0) | exact (by decide : (4 : Int) ≠ 0) | exact (by decide : (5 : Int) ≠ 0) | exact (by decide : (0 : Int) < 2) | exact (by decide : (0 : Int) < 3) | exact (by decide : (0 : Int) < 4) | exact (by decide : (0 : Int) < 5))) y
          rw [zfsf_t (hall (decide (s.1.1.length < 6), p, 5) (by simp)), zfsf_t (hall (zisNm T N (znx T N p), znx T N p, 2) (by simp))]; rfl
        rw [e0]; rfl
      · rfl
    · intro c hc
      simp only [List.mem_cons, List.not_mem_nil, or_false] at hc
      rcases hc with rfl | rfl | rfl <;> (first | exact (by decide : (2 : Int) ≠ 0) | exact (by decide : (3 : Int) ≠ 0) | exact (by decide : (4 : Int) ≠ 0) | exact (by decide : (5 : Int) ≠ 0) | exact (by decide : (0 : Int) < 2) | exact (by decide : (0 : Int) < 3) | exact (by decide : (0 : Int) < 4) | exact (by decide : (0 : Int) < 5))
  refine zclV_ex (x283_0 ?_)
  rw [c6]
  exact ⟨fun q => core 0 ⟨fun y => absurd rfl y, fun y => absurd (of_decide_eq_true y) (by omega)⟩, fun q => core 1 ⟨fun _ => decide_eq_true (by omega), fun _ => by decide⟩⟩
/-- how the model's LINE ends -/
def zMlh (T : Nat → Int) (N : Nat) (s : zSta) (p : Nat) (H0 : zHt) (H' : zHt) : Prop := zfMM H0 H' ∧ (((zln T N s p).1.1 = 0 ∧ H' 81 34 = 0 ∧ zMt H' T N (zln T N s p).2.1 ∧ zDeM H' 83 0 (zln T N s p).2.2.1 ∧ zNmM H' (zln T N s p).2.2.2) ∨ ((zln T N s p).1.1 ≠ 0 ∧ H' 81 34 = (zln T N s p).1.1 ∧ H' 81 35 = (zln T N s p).1.2))
theorem zMlh_of {s : zSta} {p q : Nat} {H0 H' : zHt} {L : List (Bool × Nat × Int)} {s' : zSta} (hf : zfMM H0 H') (hs : zMst T N L q H') (he : zln T N s p = (zfsf T N L, q, s')) (hD : (zfsf T N L).1 = 0 → zDeM H' 83 0 s'.1 ∧ zNmM H' s'.2) : zMlh T N s p H0 H' := by
  refine ⟨hf, ?_⟩
  rw [he]
  rcases hs.2 with ⟨a, b, c⟩ | ⟨a, b, c⟩
  · exact Or.inl ⟨a, b, c, hD a⟩
  · exact Or.inr ⟨a, b, c⟩
theorem c281n {s : zSta} {p : Nat} {t : Int} (ht : t = 0 ∨ t = 1) (hp : p ≤ N) (hs : zOkS s) (hk : zkd T N p = 1) (hc : zMc T N H) (hD : zDeM H 83 0 s.1) (hn : zNmM H s.2) (h : zMst T N [] p H) (he : zln T N s p = (zfsf T N (zlnB T N p (zrmx t)), znx T N (znx T N (znx T N p)), (if t = 0 then (s.1.1, znm T N (znx T N p), s.1.2.2) else (s.1.1, s.1.2.1, znm T N (znx T N p), s.1.2.2.2), s.2))) : zgo w (d + 6) 281 44 [zR 81, zJ] [zI t] H (zQV (zMlh T N s p H)) := by
  have b1 := znx_b (T := T) hp
  have b2 := znx_b (T := T) b1.2.1
  refine x281_44 ?_
  obtain ⟨H1, ⟨f1, s1⟩, e1⟩ := c285 (w := w) (d := d + 2) h (fun _ => by rw [hk]; decide) hp hc
  rw [e1, c268]
  obtain ⟨x, H2, ⟨f2, s2, v2⟩, e2⟩ := c287 (w := w) (d := d + 1) (most := zrmx t) s1 b1.2.1 (zMc_T f1 hc)
  rw [e2]
  have e7 : w32 (7 + t) = 7 + t := w32_id (by omega)
  rw [e7]
  refine ⟨by omega, ?_⟩
  have D2 : zDeM H2 83 0 s.1 := zDeM_f (fun j => by rw [f2 83 j (by omega), f1 83 j (by omega)]) hD
  have n2 : zNmM H2 s.2 := fun k hk => by rw [f2 100 k (by omega), f1 100 k (by omega)]; exact hn k hk
  have F2 : zfMM H H2 := zfMM_T (zfMM_T zfMM_rfl f1) f2
  have hz2 := zfsf_a (T := T) (N := N) (m := [(zisSg T N (znx T N (znx T N p)), znx T N (znx T N p), 2)]) (l := [] ++ [(zisNu T N (znx T N p), znx T N p, 2)] ++ [(zrgn T N (znx T N p) (zrmx t), znx T N p, 3)]) (fun c hc => by have := s2.1 c hc; omega)
  have sg := c28s (w := w) (d := d + 2) (H := zup H2 83 (7 + t) x) (zMst_f (fun j _ _ => zq_ne (by omega)) s2) b2.2.1 (zMc_f (fun a j q => zq_ne (by omega)) (zMc_MM F2 hc)) (P := zMlh T N s p H) (fun H' f' s' => by
    refine zMlh_of (zfMM_T (zfMM_up (by omega) F2) f') s' he (fun hz => ?_)
    have hz' : (zfsf T N ([] ++ [(zisNu T N (znx T N p), znx T N p, 2)] ++ [(zrgn T N (znx T N p) (zrmx t), znx T N p, 3)])).1 = 0 := by
      have hz : (zfsf T N ([] ++ [(zisNu T N (znx T N p), znx T N p, 2)] ++ [(zrgn T N (znx T N p) (zrmx t), znx T N p, 3)] ++ [(zisSg T N (znx T N (znx T N p)), znx T N (znx T N p), 2)])).1 = 0 := hz
      rw [hz2] at hz
      split at hz
      · assumption
      · exact hz
    have D3 : zDeM (zup H2 83 (7 + t) x) 83 0 (if t = 0 then (s.1.1, znm T N (znx T N p), s.1.2.2) else (s.1.1, s.1.2.1, znm T N (znx T N p), s.1.2.2.2)) := by
      rw [v2 hz']
      have hv6 := hs.1.1
      obtain ⟨d1, d2, d3, d4, d5⟩ := D2
      simp only [Int.zero_add] at d1 d2 d3 d4 d5
      rcases ht with rfl | rfl
      · rw [if_pos rfl]
        refine ⟨?_, ?_, ?_, ?_, fun k hk => ?_⟩
        · rw [Int.zero_add, zq_ne (by omega)]; exact d1
        · rw [Int.zero_add]; exact zq_eq
        · rw [Int.zero_add, zq_ne (by omega)]; exact d3
        · rw [Int.zero_add, zq_ne (by omega)]; exact d4
        · have hk : k < s.1.1.length := hk
          rw [Int.zero_add, zq_ne (by omega)]; exact d5 k hk
      · rw [if_neg (by decide)]
        refine ⟨?_, ?_, ?_, ?_, fun k hk => ?_⟩
        · rw [Int.zero_add, zq_ne (by omega)]; exact d1
        · rw [Int.zero_add, zq_ne (by omega)]; exact d2
        · rw [Int.zero_add]; exact zq_eq
        · rw [Int.zero_add, zq_ne (by omega)]; exact d4
        · have hk : k < s.1.1.length := hk
          rw [Int.zero_add, zq_ne (by omega)]; exact d5 k hk
    exact ⟨zDeM_f (fun j => f' 83 j (by omega)) D3, fun k hk => by rw [f' 100 k (by omega), zq_ne (by omega)]; exact n2 k hk⟩)
  exact sg
theorem c281 {s : zSta} {p : Nat} (hp : p ≤ N) (hs : zOkS s) (hc : zMc T N H) (hD : zDeM H 83 0 s.1) (hn : zNmM H s.2) (h : zMst T N [] p H) : ∃ H', zMlh T N s p H H' ∧ ∀ K : zHt → Prop, zclV w (d + 6) 281 [zR 81] H K = K H' := by
  have b1 := znx_b (T := T) hp
  have b2 := znx_b (T := T) b1.2.1
  have b3 := znx_b (T := T) b2.2.1
  have h0 : (zfsf T N []).1 = 0 := rfl
  have cw : ∀ (k : Nat) (K : Int → zHt → Prop), k < 8 → zclI w (d + 5) 282 [zR 81, zI k] H K = K (if zkd T N p = 1 ∧ zkw (zwd T N p) = (k : Int) then 1 else 0) H := fun k K hk => by
    rw [c282 hk h hp hc]
    congr 1
    by_cases z : zkd T N p = 1 ∧ zkw (zwd T N p) = (k : Int)
    · rw [if_pos z, if_pos ⟨h0, z⟩]
    · rw [if_neg z, if_neg (fun y => z y.2)]
  have cw0 : ∀ K : Int → zHt → Prop, zclI w (d + 5) 282 [zR 81, zI 0] H K = K (if zkd T N p = 1 ∧ zkw (zwd T N p) = 0 then 1 else 0) H := fun K => cw 0 K (by omega)
  have cw1 : ∀ K : Int → zHt → Prop, zclI w (d + 5) 282 [zR 81, zI 1] H K = K (if zkd T N p = 1 ∧ zkw (zwd T N p) = 1 then 1 else 0) H := fun K => cw 1 K (by omega)
  have cw2 : ∀ K : Int → zHt → Prop, zclI w (d + 5) 282 [zR 81, zI 2] H K = K (if zkd T N p = 1 ∧ zkw (zwd T N p) = 2 then 1 else 0) H := fun K => cw 2 K (by omega)
  have cw3 : ∀ K : Int → zHt → Prop, zclI w (d + 5) 282 [zR 81, zI 3] H K = K (if zkd T N p = 1 ∧ zkw (zwd T N p) = 3 then 1 else 0) H := fun K => cw 3 K (by omega)
  refine zclV_ex (x281_0 ?_)
  rw [cw0]
  by_cases k0 : zkd T N p = 1 ∧ zkw (zwd T N p) = 0
  · rw [if_pos k0]
    refine ⟨fun z => absurd z (by decide), fun _ => ?_⟩
    obtain ⟨H1, ⟨f1, s1, v1⟩, e1⟩ := c283 (w := w) (d := d) hp hs k0.1 hc hD hn h
    rw [e1]
    have hz2 := zfsf_a (T := T) (N := N) (m := [(zisSg T N (znx T N (znx T N (znx T N p))), znx T N (znx T N (znx T N p)), 2)]) (l := zlnR5 T N s p ++ [(zisNu T N (znx T N (znx T N p)), znx T N (znx T N p), 2)] ++ [(zrgn T N (znx T N (znx T N p)) 999999999, znx T N (znx T N p), 3)]) (fun c hc => by have := s1.1 c hc; omega)
    refine c28s (w := w) (d := d + 2) s1 b3.2.1 (zMc_MM f1 hc) (P := zMlh T N s p H) (fun H' f' s' => zMlh_of (s' := ((s.1.1 ++ [znm T N (znx T N (znx T N p))], s.1.2), s.2 ++ [zwd T N (znx T N p)])) (zfMM_T f1 f') s' ?_ (fun hz => ?_))
    · unfold zln; rw [if_pos ⟨k0.1, k0.2⟩]; rfl
    · rw [hz2] at hz
      have hz' : (zfsf T N (zlnR5 T N s p ++ [(zisNu T N (znx T N (znx T N p)), znx T N (znx T N p), 2)] ++ [(zrgn T N (znx T N (znx T N p)) 999999999, znx T N (znx T N p), 3)])).1 = 0 := by
        split at hz
        · assumption
        · exact hz
      obtain ⟨D1, n1⟩ := v1 hz'
      exact ⟨zDeM_f (fun j => f' 83 j (by omega)) D1, fun k hk => by rw [f' 100 k (by omega)]; exact n1 k hk⟩
  · rw [if_neg k0]
    refine ⟨fun _ => ?_, fun z => absurd rfl z⟩
    rw [cw1]
    by_cases k1 : zkd T N p = 1 ∧ zkw (zwd T N p) = 1
    · rw [if_pos k1]
      refine ⟨fun _ => ?_, fun z => absurd z (by decide)⟩
      rw [cw1, if_pos k1]
      refine ⟨fun z => absurd z (by decide), fun _ => ?_⟩
      exact c281n (t := 0) (Or.inl rfl) hp hs k1.1 hc hD hn h (by unfold zln; rw [if_neg k0, if_pos ⟨k1.1, k1.2⟩, if_pos rfl]; rfl)
    · rw [if_neg k1]
      refine ⟨fun z => absurd rfl z, fun _ => ?_⟩
      rw [cw2]
      by_cases k2 : zkd T N p = 1 ∧ zkw (zwd T N p) = 2
      · rw [if_pos k2]
        refine ⟨fun z => absurd z (by decide), fun _ => ?_⟩
        rw [cw1, if_neg k1]
        refine ⟨fun _ => ?_, fun z => absurd rfl z⟩
        exact c281n (t := 1) (Or.inr rfl) hp hs k2.1 hc hD hn h (by unfold zln; rw [if_neg k0, if_neg k1, if_pos ⟨k2.1, k2.2⟩, if_neg (by decide)]; rfl)
      · rw [if_neg k2]
        refine ⟨fun _ => ?_, fun z => absurd rfl z⟩
        rw [cw3]
        obtain ⟨H1, ⟨f1, g1, s1⟩, e1⟩ := c284 (w := w) (d := d + 5) (a := if zkd T N p = 1 ∧ zkw (zwd T N p) = 3 then 1 else 0) (k := 2) (b := decide (zkd T N p = 1 ∧ zkw (zwd T N p) = 3)) h (by decide) (fun _ => by
          by_cases y : zkd T N p = 1 ∧ zkw (zwd T N p) = 3
          · rw [if_pos y]; exact ⟨fun _ => decide_eq_true y, fun _ => by decide⟩
          · rw [if_neg y]; exact ⟨fun v => absurd rfl v, fun v => absurd (of_decide_eq_true v) y⟩)
        rw [e1]
        have hk3 : (zfsf T N ([] ++ [(decide (zkd T N p = 1 ∧ zkw (zwd T N p) = 3), p, 2)])).1 = 0 → zkd T N p = 1 ∧ zkw (zwd T N p) = 3 := fun hz => of_decide_eq_true (zfsf_0 (T := T) (N := N) (by intro c hc; have := s1.1 c hc; omega) hz (decide (zkd T N p = 1 ∧ zkw (zwd T N p) = 3), p, 2) (by simp))
        obtain ⟨H2, ⟨f2, s2⟩, e2⟩ := c285 (w := w) (d := d + 2) s1 (fun hz => by rw [(hk3 hz).1]; decide) hp (zMc_T f1 hc)
        rw [e2]
        obtain ⟨H3, ⟨f3, s3, v3⟩, e3⟩ := c288 (w := w) (d := d + 1) s2 b1.2.1 (zMc_T f2 (zMc_T f1 hc))
        rw [e3]
        have F3 : zfMM H H3 := fun a j q1 q2 q3 => by rw [f3 a j q3 (by omega), f2 a j q3, f1 a j q3]
        have hz2 := zfsf_a (T := T) (N := N) (m := [(zisSg T N (znx T N (znx T N p)), znx T N (znx T N p), 2)]) (l := [] ++ [(decide (zkd T N p = 1 ∧ zkw (zwd T N p) = 3), p, 2)] ++ [(zisLw T N (znx T N p), znx T N p, 2)]) (fun c hc => by have := s3.1 c hc; omega)
        refine c28s (w := w) (d := d + 2) s3 b2.2.1 (zMc_MM F3 hc) (P := zMlh T N s p H) (fun H' f' s' => ?_)
        by_cases k3 : zkd T N p = 1 ∧ zkw (zwd T N p) = 3
        · have es : zfsf T N (zlnL T N p) = zfsf T N ([] ++ [(decide (zkd T N p = 1 ∧ zkw (zwd T N p) = 3), p, 2)] ++ [(zisLw T N (znx T N p), znx T N p, 2)] ++ [(zisSg T N (znx T N (znx T N p)), znx T N (znx T N p), 2)]) := (zfsf_t (T := T) (N := N) (c := (decide (zkd T N p = 1 ∧ zkw (zwd T N p) = 3), p, 2)) (l := zlnL T N p) (decide_eq_true k3)).symm
          refine zMlh_of (s' := ((s.1.1, s.1.2.1, s.1.2.2.1, zkw (zwd T N (znx T N p)) - 4), s.2)) (zfMM_T F3 f') s' (by unfold zln; rw [if_neg k0, if_neg k1, if_neg k2, if_pos k3, es]) (fun hz => ?_)
          rw [hz2] at hz
          have hz' : (zfsf T N ([] ++ [(decide (zkd T N p = 1 ∧ zkw (zwd T N p) = 3), p, 2)] ++ [(zisLw T N (znx T N p), znx T N p, 2)])).1 = 0 := by
            split at hz
            · assumption
            · exact hz
          have hv6 := hs.1.1
          obtain ⟨d1, d2, d3, d4, d5⟩ := hD
          simp only [Int.zero_add] at d1 d2 d3 d4 d5
          have fr : ∀ j : Int, j ≠ 9 → H' 83 j = H 83 j := fun j hj => by rw [f' 83 j (by omega), f3 83 j (by omega) (by omega), f2 83 j (by omega), f1 83 j (by omega)]
          refine ⟨⟨?_, ?_, ?_, ?_, fun k hk => ?_⟩, fun k hk => ?_⟩
          · rw [Int.zero_add, fr _ (by omega)]; exact d1
          · rw [Int.zero_add, fr _ (by omega)]; exact d2
          · rw [Int.zero_add, fr _ (by omega)]; exact d3
          · rw [Int.zero_add, f' 83 9 (by omega)]; exact v3 hz'
          · have hk : k < s.1.1.length := hk
            rw [Int.zero_add, fr _ (by omega)]; exact d5 k hk
          · rw [f' 100 k (by omega), f3 100 k (by omega) (by omega), f2 100 k (by omega), f1 100 k (by omega)]; exact hn k hk
        · have hb : zfsf T N ([] ++ [(decide (zkd T N p = 1 ∧ zkw (zwd T N p) = 3), p, 2)] ++ [(zisLw T N (znx T N p), znx T N p, 2)] ++ [(zisSg T N (znx T N (znx T N p)), znx T N (znx T N p), 2)]) = zfsf T N [(false, p, 2)] :=
            (zfsf_f (T := T) (N := N) (c := (decide (zkd T N p = 1 ∧ zkw (zwd T N p) = 3), p, 2)) (l := zlnL T N p) (decide_eq_false k3)).trans (zfsf_f (T := T) (N := N) (c := (false, p, 2)) (l := []) rfl).symm
          have he : (zln T N s p).1 = zfsf T N [(false, p, 2)] := by
            unfold zln; rw [if_neg k0, if_neg k1, if_neg k2, if_neg k3]
          have hne : (zfsf T N [(false, p, (2 : Int))]).1 ≠ 0 := by
            rw [zfsf_f rfl]
            show (if (2 : Int) = 2 ∧ zkd T N p = 4 then 1 else 2) ≠ (0 : Int)
            split <;> decide
          refine ⟨zfMM_T F3 f', Or.inr ?_⟩
          rw [he]
          rcases s'.2 with ⟨a, _⟩ | ⟨a, b, c⟩
          · rw [hb] at a; exact absurd a hne
          · rw [hb] at a b c; exact ⟨a, b, c⟩
end Z74o
