/-! the case load: the class's lines, its text -/
/-- how a LINE ends -/
def zClh (T : Nat → Int) (N : Nat) (s : zSta) (p : Nat) (H0 : zHt) (x : Int) (H' : zHt) : Prop := zfld H0 H' ∧ ((x = 1 ∧ (zln T N s p).1.1 = 0 ∧ H' 33 3 = ((zln T N s p).2.1 : Nat) ∧ zDeC H' 42 (zln T N s p).2.2.1 ∧ zNmC H' (zln T N s p).2.2.2 ∧ H' 33 9 = H0 33 9 ∧ H' 33 10 = H0 33 10) ∨ (x = 0 ∧ (zln T N s p).1.1 ≠ 0 ∧ H' 33 9 = (zln T N s p).1.1 ∧ H' 33 10 = (zln T N s p).1.2))
theorem zClh_bad {T : Nat → Int} {N p : Nat} {s : zSta} {H0 H' : zHt} {L L2 : List (Bool × Nat × Int)} (hF : zfld H0 H') (he : (zln T N s p).1 = zfsf T N L2) (h2 : zfsf T N L2 = zfsf T N L) (h0 : (zfsf T N L).1 ≠ 0) (h9 : H' 33 9 = (zfsf T N L).1) (h10 : H' 33 10 = (zfsf T N L).2) : zClh T N s p H0 0 H' :=
  ⟨hF, Or.inr ⟨rfl, by rw [he, h2]; exact h0, by rw [he, h2]; exact h9, by rw [he, h2]; exact h10⟩⟩
/-- a list of checks whose first ones fail, or hold -/
theorem zfsf_a {T : Nat → Int} {N : Nat} {m : List (Bool × Nat × Int)} : ∀ {l : List (Bool × Nat × Int)}, (∀ c ∈ l, c.2.2 ≠ 0) → zfsf T N (l ++ m) = if (zfsf T N l).1 = 0 then zfsf T N m else zfsf T N l
  | [], _ => (if_pos rfl).symm
  | a :: l, hk => by
    cases ha : a.1 with
    | false =>
      have h0 := hk a List.mem_cons_self
      have hne : ¬ (zfsf T N (a :: l)).1 = 0 := by
        rw [zfsf_f ha]
        show ¬ (if a.2.2 = 2 ∧ zkd T N a.2.1 = 4 then 1 else a.2.2) = (0 : Int)
        split
        · decide
        · exact h0
      rw [if_neg hne, List.cons_append, zfsf_f ha, zfsf_f ha]
    | true => rw [List.cons_append, zfsf_t ha, zfsf_t ha, zfsf_a (fun b hb => hk b (List.mem_cons_of_mem _ hb))]
theorem zDeC_42 {H : zHt} {D : List Int × Int × Int × Int} {n : Int} (hc : zDeC H 42 D) : zDeC (zup (zup H 43 D.1.length n) 42 1 ((D.1.length + 1 : Nat) : Int)) 42 (D.1 ++ [n], D.2) := by
  obtain ⟨c1, c2, c3, c4, c5⟩ := hc
  refine ⟨?_, ?_, ?_, ?_, ?_⟩
  · rw [zq_eq]; show _ = ((D.1 ++ [n]).length : Int); rw [List.length_append]; rfl
  · rw [zq_ne (by omega), zq_ne (by omega)]; exact c2
  · rw [zq_ne (by omega), zq_ne (by omega)]; exact c3
  · rw [zq_ne (by omega), zq_ne (by omega)]; exact c4
  · exact zArr_eq (H := zup H (42 + 1) D.1.length n) (fun k _ => by rw [zq_ne (by omega)]; rfl) (zArr_app c5)
theorem zDeC_f {H H' : zHt} {D : List Int × Int × Int × Int} (f : zf39 H H') (hc : zDeC H 42 D) : zDeC H' 42 D := zDeC_k (fun j => f 42 j (by omega)) (fun j => f (42 + 1) j (by omega)) hc
theorem zNmC_f {H H' : zHt} {l : List (List Int)} (f : zf39 H H') (hn : zNmC H l) : zNmC H' l := fun k hk => (f 35 k (by omega)).trans (hn k hk)
section Z74m
variable {w : zWt} {d : Nat} {H : zHt} {T : Nat → Int} {N : Nat}
theorem zCt_22 {p : Nat} {a j x : Int} (ha : a ≠ 33) (h : zCt H T N p) : zCt (zup H a j x) T N p := by
  obtain ⟨h1, h2, h3, h4, h5⟩ := h
  exact ⟨by rw [zq_ne (by omega)]; exact h1, by rw [zq_ne (by omega)]; exact h2, by rw [zq_ne (by omega)]; exact h3, fun z => by rw [zq_ne (by omega)]; exact h4 z, fun z => by rw [zq_ne (by omega)]; exact h5 z⟩
theorem c30 {p : Nat} {s : zSta} (hp : p ≤ N) (hs : zOkS s) (hT : zTx H T N) (h2 : H 33 2 = (N : Int)) (C : zCt H T N p) (hD : zDeC H 42 s.1) (hn : zNmC H s.2) (hk : zkd T N p = 1) (hw : zkw (zwd T N p) = 0) : ∃ x H', zClh T N s p H x H' ∧ ∀ K : Int → zHt → Prop, zclI w (d + 7) 30 [zR 33, zR 42] H K = K x H' := by
  have he : (zln T N s p).1 = zfsf T N (zlnR T N s p) := by unfold zln; rw [if_pos ⟨hk, hw⟩]
  have he2 : (zln T N s p).2 = (znx T N (znx T N (znx T N (znx T N p))), ((s.1.1 ++ [znm T N (znx T N (znx T N p))], s.1.2), s.2 ++ [zwd T N (znx T N p)])) := by unfold zln; rw [if_pos ⟨hk, hw⟩]
  have b1 := znx_b (T := T) hp
  have b2 := znx_b (T := T) b1.2.1
  have b3 := znx_b (T := T) b2.2.1
  have hc := hD.1
  have hs2 := hs.2.1
  refine zclI_ex (x30_0 (Or.inr (Or.inl rfl)) ?_)
  rw [hc]
  refine ⟨fun q => ?_, fun q => ?_⟩
  · have t1 : zfsf T N (zlnR T N s p) = zfsf T N [(zisNm T N (znx T N p), znx T N p, 2), (decide (zwd T N (znx T N p) ∉ s.2), znx T N p, 4), (zisNu T N (znx T N (znx T N p)), znx T N (znx T N p), 2), (zrgn T N (znx T N (znx T N p)) 999999999, znx T N (znx T N p), 3), (zisSg T N (znx T N (znx T N (znx T N p))), znx T N (znx T N (znx T N p)), 2)] := zfsf_t (decide_eq_true (by omega))
    have t2 := zfsf_a (T := T) (N := N) (m := [(zisNu T N (znx T N (znx T N p)), znx T N (znx T N p), 2), (zrgn T N (znx T N (znx T N p)) 999999999, znx T N (znx T N p), 3), (zisSg T N (znx T N (znx T N (znx T N p))), znx T N (znx T N (znx T N p)), 2)]) (l := [(zisNm T N (znx T N p), znx T N p, 2), (decide (zwd T N (znx T N p) ∉ s.2), znx T N p, 4)]) (by intro c hc; simp only [List.mem_cons, List.not_mem_nil, or_false] at hc; rcases hc with rfl | rfl <;> (first | exact (by decide : (2 : Int) ≠ 0) | exact (by decide : (3 : Int) ≠ 0) | exact (by decide : (4 : Int) ≠ 0) | exact (by decide : (5 : Int) ≠ 0) | exact (by decide : (0 : Int) < 2) | exact (by decide : (0 : Int) < 3) | exact (by decide : (0 : Int) < 4) | exact (by decide : (0 : Int) < 5)))
    have t3 := zfsf_a (T := T) (N := N) (m := [(zisSg T N (znx T N (znx T N (znx T N p))), znx T N (znx T N (znx T N p)), 2)]) (l := [(zisNu T N (znx T N (znx T N p)), znx T N (znx T N p), 2), (zrgn T N (znx T N (znx T N p)) 999999999, znx T N (znx T N p), 3)]) (by intro c hc; simp only [List.mem_cons, List.not_mem_nil, or_false] at hc; rcases hc with rfl | rfl <;> (first | exact (by decide : (2 : Int) ≠ 0) | exact (by decide : (3 : Int) ≠ 0) | exact (by decide : (4 : Int) ≠ 0) | exact (by decide : (5 : Int) ≠ 0) | exact (by decide : (0 : Int) < 2) | exact (by decide : (0 : Int) < 3) | exact (by decide : (0 : Int) < 4) | exact (by decide : (0 : Int) < 5)))
    obtain ⟨x1, H1, ⟨f1, r1⟩, e1⟩ := c31 (w := w) (d := d) (H := H) (p := znx T N p) (nm := s.2) b1.2.1 hT h2 C.1 hn (by omega) hs.2.2
    rw [show ((s.1.1.length : Nat) : Int) = ((s.2.length : Nat) : Int) by omega, e1]
    rcases r1 with ⟨rfl, y1, C1, g9, g10⟩ | ⟨rfl, y1, g9, g10⟩
    · refine ⟨fun _ => ⟨by omega, ?_⟩, fun z => absurd z (by decide)⟩
      rw [if_pos y1] at t2
      have hk1 : zkd T N (znx T N p) = 1 := by
        have := zfsf_0 (by intro c hc; simp only [List.mem_cons, List.not_mem_nil, or_false] at hc; rcases hc with rfl | rfl <;> (first | exact (by decide : (2 : Int) ≠ 0) | exact (by decide : (3 : Int) ≠ 0) | exact (by decide : (4 : Int) ≠ 0) | exact (by decide : (5 : Int) ≠ 0) | exact (by decide : (0 : Int) < 2) | exact (by decide : (0 : Int) < 3) | exact (by decide : (0 : Int) < 4) | exact (by decide : (0 : Int) < 5))) y1 (zisNm T N (znx T N p), znx T N p, 2) (by simp)
        exact (of_decide_eq_true this).1
      rw [C1.2.2.2.1 hk1]
      have F1 : zfld H (zup H1 35 ((s.2.length : Nat) : Int) (zcdw 32 (zwd T N (znx T N p)))) := zfld_up (by omega) (zfld_39 zfld_rfl f1)
      have hT1 := zTx_cl F1 hT
      have h21 : zup H1 35 ((s.2.length : Nat) : Int) (zcdw 32 (zwd T N (znx T N p))) 33 2 = (N : Int) := (F1 33 2 (by omega) (by omega) (by omega) (by omega)).trans h2
      have C1' := zCt_22 (a := 35) (j := ((s.2.length : Nat) : Int)) (x := zcdw 32 (zwd T N (znx T N p))) (by omega) C1
      have n1 : zNmC (zup H1 35 ((s.2.length : Nat) : Int) (zcdw 32 (zwd T N (znx T N p)))) (s.2 ++ [zwd T N (znx T N p)]) := fun k hk2 => by
        rw [List.length_append] at hk2
        have hk2 : k < s.2.length + 1 := hk2
        by_cases z : k = s.2.length
        · subst z
          rw [zq_eq, List.getD_eq_getElem?_getD, List.getElem?_append_right (Nat.le_refl _), Nat.sub_self]; rfl
        · rw [zq_ne (by omega), zNmC_f f1 hn k (by omega), List.getD_eq_getElem?_getD, List.getD_eq_getElem?_getD, List.getElem?_append_left (by omega)]
      have D1 : zDeC (zup H1 35 ((s.2.length : Nat) : Int) (zcdw 32 (zwd T N (znx T N p)))) 42 s.1 := zDeC_k (fun j => zq_ne (by omega)) (fun j => zq_ne (by omega)) (zDeC_f f1 hD)
      have g9' : zup H1 35 ((s.2.length : Nat) : Int) (zcdw 32 (zwd T N (znx T N p))) 33 9 = H 33 9 := by rw [zq_ne (by omega)]; exact g9
      have g10' : zup H1 35 ((s.2.length : Nat) : Int) (zcdw 32 (zwd T N (znx T N p))) 33 10 = H 33 10 := by rw [zq_ne (by omega)]; exact g10
      generalize zup H1 35 ((s.2.length : Nat) : Int) (zcdw 32 (zwd T N (znx T N p))) = H1b at F1 hT1 h21 C1' n1 D1 g9' g10' ⊢
      obtain ⟨x2, H2, ⟨f2, r2⟩, e2⟩ := c33 (w := w) (d := d + 4) (H := H1b) (p := znx T N (znx T N p)) (most := 999999999) b2.2.1 hT1 h21 C1'.1
      rw [e2]
      rcases r2 with ⟨rfl, y2, C2, k9, k10⟩ | ⟨rfl, y2, k9, k10⟩
      · refine ⟨fun _ => ?_, fun z => absurd z (by decide)⟩
        rw [if_pos y2] at t3
        have hk2 : zkd T N (znx T N (znx T N p)) = 2 := by
          have := zfsf_0 (by intro c hc; simp only [List.mem_cons, List.not_mem_nil, or_false] at hc; rcases hc with rfl | rfl <;> (first | exact (by decide : (2 : Int) ≠ 0) | exact (by decide : (3 : Int) ≠ 0) | exact (by decide : (4 : Int) ≠ 0) | exact (by decide : (5 : Int) ≠ 0) | exact (by decide : (0 : Int) < 2) | exact (by decide : (0 : Int) < 3) | exact (by decide : (0 : Int) < 4) | exact (by decide : (0 : Int) < 5))) y2 (zisNu T N (znx T N (znx T N p)), znx T N (znx T N p), 2) (by simp)
          exact of_decide_eq_true this
        have D2 := zDeC_f f2 D1
        have n2 := zNmC_f f2 n1
        rw [C2.2.2.2.2 hk2]
        refine x34_0 (Or.inr (Or.inl rfl)) ⟨fun z => by rw [D2.1] at z; omega, fun _ => ?_⟩
        rw [D2.1]
        refine ⟨by omega, ?_⟩
        rw [show (42 : Int) + 1 = 43 from rfl, show zup H2 43 ((s.1.1.length : Nat) : Int) (znm T N (znx T N (znx T N p))) 42 1 = ((s.1.1.length : Nat) : Int) by rw [zq_ne (by omega)]; exact D2.1, zi1 (by omega)]
        have D3 := zDeC_42 (n := znm T N (znx T N (znx T N p))) D2
        have F3 : zfld H (zup (zup H2 43 ((s.1.1.length : Nat) : Int) (znm T N (znx T N (znx T N p)))) 42 1 ((s.1.1.length + 1 : Nat) : Int)) := zfld_up (by omega) (zfld_up (by omega) (zfld_39 F1 f2))
        have C3 : zCt (zup (zup H2 43 ((s.1.1.length : Nat) : Int) (znm T N (znx T N (znx T N p)))) 42 1 ((s.1.1.length + 1 : Nat) : Int)) T N (znx T N (znx T N p)) := zCt_22 (by omega) (zCt_22 (by omega) C2)
        have n3 : zNmC (zup (zup H2 43 ((s.1.1.length : Nat) : Int) (znm T N (znx T N (znx T N p)))) 42 1 ((s.1.1.length + 1 : Nat) : Int)) (s.2 ++ [zwd T N (znx T N p)]) := fun k hk3 => by rw [zq_ne (by omega), zq_ne (by omega)]; exact n2 k hk3
        have m9 : zup (zup H2 43 ((s.1.1.length : Nat) : Int) (znm T N (znx T N (znx T N p)))) 42 1 ((s.1.1.length + 1 : Nat) : Int) 33 9 = H 33 9 := by rw [zq_ne (by omega), zq_ne (by omega), k9]; exact g9'
        have m10 : zup (zup H2 43 ((s.1.1.length : Nat) : Int) (znm T N (znx T N (znx T N p)))) 42 1 ((s.1.1.length + 1 : Nat) : Int) 33 10 = H 33 10 := by rw [zq_ne (by omega), zq_ne (by omega), k10]; exact g10'
        generalize zup (zup H2 43 ((s.1.1.length : Nat) : Int) (znm T N (znx T N (znx T N p)))) 42 1 ((s.1.1.length + 1 : Nat) : Int) = H3 at D3 F3 C3 n3 m9 m10 ⊢
        have hT3 := zTx_cl F3 hT
        have h23 : H3 33 2 = (N : Int) := (F3 33 2 (by omega) (by omega) (by omega) (by omega)).trans h2
        obtain ⟨x4, H4, ⟨f4, r4⟩, e4⟩ := c35 (w := w) (d := d + 4) (H := H3) (p := znx T N (znx T N (znx T N p))) b3.2.1 hT3 h23 C3.1
        rw [e4]
        rcases r4 with ⟨rfl, y4, C4, j9, j10⟩ | ⟨rfl, y4, j9, j10⟩
        · refine ⟨Or.inr rfl, zfld_39 F3 f4, Or.inl ⟨rfl, ?_, ?_, ?_, ?_, j9.trans m9, j10.trans m10⟩⟩
          · rw [he, t1]
            exact (congrArg Prod.fst (t2.trans t3)).trans y4
          · rw [he2]; exact C4.1
          · rw [he2]; exact zDeC_f f4 D3
          · rw [he2]; exact zNmC_f f4 n3
        · exact ⟨Or.inl rfl, zClh_bad (zfld_39 F3 f4) he (t1.trans (t2.trans t3)) y4 j9 j10⟩
      · refine ⟨fun z => absurd rfl z, fun _ => ?_⟩
        rw [if_neg y2] at t3
        exact zClh_bad (zfld_39 F1 f2) he (t1.trans (t2.trans t3)) y2 k9 k10
    · refine ⟨fun z => absurd rfl z, fun _ => ?_⟩
      rw [if_neg y1] at t2
      exact zClh_bad (zfld_39 zfld_rfl f1) he (t1.trans t2) y1 g9 g10
  · rw [c20]
    have R := zCr_fail (H0 := H) (L := zlnR T N s p) (fun _ _ _ => rfl) C (by decide : (5 : Int) ≠ 0) (zfsf_f (decide_eq_false (by omega))) (fun y => by omega) p
    obtain ⟨rf, rr⟩ := R
    rcases rr with ⟨z, _⟩ | ⟨_, y, k9, k10⟩
    · exact absurd z (by decide)
    · exact ⟨Or.inl rfl, zClh_bad (zfld_39 zfld_rfl rf) he rfl y k9 k10⟩
/-- bound, steps: a number, then the sign -/
theorem c19n {p : Nat} {s : zSta} {most j : Int} (hj : j = 2 ∨ j = 3) (hp : p ≤ N) (hs : zOkS s) (hT : zTx H T N) (h2 : H 33 2 = (N : Int)) (C : zCt H T N p) (hD : zDeC H 42 s.1) (hn : zNmC H s.2) (hw : zln T N s p = (zfsf T N (zlnB T N p most), znx T N (znx T N (znx T N p)), (if j = 2 then (s.1.1, znm T N (znx T N p), s.1.2.2) else (s.1.1, s.1.2.1, znm T N (znx T N p), s.1.2.2.2), s.2))) : zclI w (d + 2) 33 [zR 33, zI most] H (fun x11 H10 => (x11 = 0 → zClh T N s p H 0 (zup H10 42 j (H10 33 7))) ∧ (¬ x11 = 0 → zclI w (d + 2) 35 [zR 33] (zup H10 42 j (H10 33 7)) (fun x14 H13 => (x14 = 0 → zClh T N s p H 0 H13) ∧ (¬ x14 = 0 → zClh T N s p H 1 H13)))) := by
  have b1 := znx_b (T := T) hp
  have b2 := znx_b (T := T) b1.2.1
  have he : (zln T N s p).1 = zfsf T N (zlnB T N p most) := by rw [hw]
  have t2 : zfsf T N (zlnB T N p most) = if (zfsf T N [(zisNu T N (znx T N p), znx T N p, 2), (zrgn T N (znx T N p) most, znx T N p, 3)]).1 = 0 then zfsf T N [(zisSg T N (znx T N (znx T N p)), znx T N (znx T N p), 2)] else zfsf T N [(zisNu T N (znx T N p), znx T N p, 2), (zrgn T N (znx T N p) most, znx T N p, 3)] := zfsf_a (T := T) (N := N) (m := [(zisSg T N (znx T N (znx T N p)), znx T N (znx T N p), 2)]) (l := [(zisNu T N (znx T N p), znx T N p, 2), (zrgn T N (znx T N p) most, znx T N p, 3)]) (by intro c hc; simp only [List.mem_cons, List.not_mem_nil, or_false] at hc; rcases hc with rfl | rfl <;> (first | exact (by decide : (2 : Int) ≠ 0) | exact (by decide : (3 : Int) ≠ 0) | exact (by decide : (4 : Int) ≠ 0) | exact (by decide : (5 : Int) ≠ 0) | exact (by decide : (0 : Int) < 2) | exact (by decide : (0 : Int) < 3) | exact (by decide : (0 : Int) < 4) | exact (by decide : (0 : Int) < 5)))
  obtain ⟨x1, H1, ⟨f1, r1⟩, e1⟩ := c33 (w := w) (d := d) (H := H) (p := znx T N p) (most := most) b1.2.1 hT h2 C.1
  rw [e1]
  have F1 : zfld H (zup H1 42 j (H1 33 7)) := zfld_up (by omega) (zfld_39 zfld_rfl f1)
  rcases r1 with ⟨rfl, y1, C1, g9, g10⟩ | ⟨rfl, y1, g9, g10⟩
  · refine ⟨fun z => absurd z (by decide), fun _ => ?_⟩
    rw [if_pos y1] at t2
    have hk1 : zkd T N (znx T N p) = 2 := by
      have := zfsf_0 (by intro c hc; simp only [List.mem_cons, List.not_mem_nil, or_false] at hc; rcases hc with rfl | rfl <;> (first | exact (by decide : (2 : Int) ≠ 0) | exact (by decide : (3 : Int) ≠ 0) | exact (by decide : (4 : Int) ≠ 0) | exact (by decide : (5 : Int) ≠ 0) | exact (by decide : (0 : Int) < 2) | exact (by decide : (0 : Int) < 3) | exact (by decide : (0 : Int) < 4) | exact (by decide : (0 : Int) < 5))) y1 (zisNu T N (znx T N p), znx T N p, 2) (by simp)
      exact of_decide_eq_true this
    rw [C1.2.2.2.2 hk1] at F1 ⊢
    have hT1 := zTx_cl F1 hT
    have h21 : zup H1 42 j (znm T N (znx T N p)) 33 2 = (N : Int) := (F1 33 2 (by omega) (by omega) (by omega) (by omega)).trans h2
    have C1' := zCt_22 (a := 42) (j := j) (x := znm T N (znx T N p)) (by omega) C1
    have n1 : zNmC (zup H1 42 j (znm T N (znx T N p))) s.2 := fun k hk => by rw [zq_ne (by omega)]; exact zNmC_f f1 hn k hk
    have D0 := zDeC_f f1 hD
    have D1 : zDeC (zup H1 42 j (znm T N (znx T N p))) 42 (if j = 2 then (s.1.1, znm T N (znx T N p), s.1.2.2) else (s.1.1, s.1.2.1, znm T N (znx T N p), s.1.2.2.2)) := by
      obtain ⟨d1, d2, d3, d4, d5⟩ := D0
      rcases hj with rfl | rfl
      · rw [if_pos rfl]
        exact ⟨by rw [zq_ne (by omega)]; exact d1, zq_eq, by rw [zq_ne (by omega)]; exact d3, by rw [zq_ne (by omega)]; exact d4, zArr_eq (fun k _ => zq_ne (by omega)) d5⟩
      · rw [if_neg (by decide)]
        exact ⟨by rw [zq_ne (by omega)]; exact d1, by rw [zq_ne (by omega)]; exact d2, zq_eq, by rw [zq_ne (by omega)]; exact d4, zArr_eq (fun k _ => zq_ne (by omega)) d5⟩
    have g9' : zup H1 42 j (znm T N (znx T N p)) 33 9 = H 33 9 := by rw [zq_ne (by omega)]; exact g9
    have g10' : zup H1 42 j (znm T N (znx T N p)) 33 10 = H 33 10 := by rw [zq_ne (by omega)]; exact g10
    generalize zup H1 42 j (znm T N (znx T N p)) = H1b at F1 hT1 h21 C1' n1 D1 g9' g10' ⊢
    obtain ⟨x4, H4, ⟨f4, r4⟩, e4⟩ := c35 (w := w) (d := d) (H := H1b) (p := znx T N (znx T N p)) b2.2.1 hT1 h21 C1'.1
    rw [e4]
    rcases r4 with ⟨rfl, y4, C4, j9, j10⟩ | ⟨rfl, y4, j9, j10⟩
    · refine ⟨fun z => absurd z (by decide), fun _ => ⟨zfld_39 F1 f4, Or.inl ⟨rfl, ?_, ?_, ?_, ?_, j9.trans g9', j10.trans g10'⟩⟩⟩
      · rw [he]
        exact (congrArg Prod.fst t2).trans y4
      · rw [hw]; exact C4.1
      · rw [hw]; exact zDeC_f f4 D1
      · rw [hw]; exact zNmC_f f4 n1
    · exact ⟨fun _ => zClh_bad (zfld_39 F1 f4) he t2 y4 j9 j10, fun z => absurd rfl z⟩
  · refine ⟨fun _ => ?_, fun z => absurd rfl z⟩
    rw [if_neg y1] at t2
    exact zClh_bad F1 he t2 y1 (by rw [zq_ne (by omega)]; exact g9) (by rw [zq_ne (by omega)]; exact g10)
theorem c19 {p : Nat} {s : zSta} (hp : p ≤ N) (hs : zOkS s) (hT : zTx H T N) (h2 : H 33 2 = (N : Int)) (C : zCt H T N p) (hD : zDeC H 42 s.1) (hn : zNmC H s.2) : ∃ x H', zClh T N s p H x H' ∧ ∀ K : Int → zHt → Prop, zclI w (d + 8) 19 [zR 33, zR 42] H K = K x H' := by
  have b1 := znx_b (T := T) hp
  have b2 := znx_b (T := T) b1.2.1
  have bad : (¬ (zkd T N p = 1 ∧ (0 ≤ zkw (zwd T N p) ∧ zkw (zwd T N p) ≤ 3))) → zclI w (d + 7) 20 [zR 33, zI 2] H (fun x5 H4 => (x5 = 0 ∨ x5 = 1) ∧ zClh T N s p H x5 H4) := fun z => by
    have he : (zln T N s p).1 = zfsf T N [(false, p, 2)] := by
      unfold zln
      rw [if_neg (by omega), if_neg (by omega), if_neg (by omega), if_neg (by omega)]
    have R := zCr_fail (H0 := H) (L := [(false, p, 2)]) (fun _ _ _ => rfl) C (by decide : (2 : Int) ≠ 0) (zfsf_f rfl) (fun y => rfl) p
    rw [c20]
    obtain ⟨rf, rr⟩ := R
    rcases rr with ⟨z, _⟩ | ⟨_, y, k9, k10⟩
    · exact absurd z (by decide)
    · exact ⟨Or.inl rfl, zClh_bad (zfld_39 zfld_rfl rf) he rfl y k9 k10⟩
  refine zclI_ex (x19_0 (Or.inr (Or.inl rfl)) ?_)
  rw [C.2.2.1]
  refine ⟨fun q => ?_, fun q => bad (fun z => q z.1)⟩
  have i := zkw_in (l := zwd T N p)
  rw [c21, C.2.2.2.1 q, zklin_32 (zwd_let hp)]
  have el : zklin (zwd T N p) = if 0 ≤ zkw (zwd T N p) ∧ zkw (zwd T N p) ≤ 3 then zkw (zwd T N p) else -1 := rfl
  refine ⟨fun z => bad (fun y => ?_), fun z => ?_, fun z => ?_, fun z => ?_, fun z => ?_⟩
  · rw [el, if_pos y.2] at z; omega
  · have hw : zkw (zwd T N p) = 0 := by rw [el] at z; split at z <;> omega
    obtain ⟨x, H1, r, e⟩ := c30 (w := w) (d := d) hp hs hT h2 C hD hn q hw
    rw [e]
    refine ⟨?_, r⟩
    rcases r.2 with ⟨y, _⟩ | ⟨y, _⟩
    · exact Or.inr y
    · exact Or.inl y
  · have hw : zkw (zwd T N p) = 1 := by rw [el] at z; split at z <;> omega
    exact c19n (w := w) (d := d + 5) (s := s) (j := 2) (Or.inl rfl) hp hs hT h2 C hD hn (by unfold zln; rw [if_neg (by omega), if_pos ⟨q, hw⟩, if_pos rfl])
  · have hw : zkw (zwd T N p) = 2 := by rw [el] at z; split at z <;> omega
    exact c19n (w := w) (d := d + 5) (s := s) (j := 3) (Or.inr rfl) hp hs hT h2 C hD hn (by unfold zln; rw [if_neg (by omega), if_neg (by omega), if_pos ⟨q, hw⟩, if_neg (by decide)])
  · have hw : zkw (zwd T N p) = 3 := by rw [el] at z; split at z <;> omega
    have hln : zln T N s p = (zfsf T N (zlnL T N p), znx T N (znx T N (znx T N p)), ((s.1.1, s.1.2.1, s.1.2.2.1, zkw (zwd T N (znx T N p)) - 4), s.2)) := by
      unfold zln; rw [if_neg (by omega), if_neg (by omega), if_neg (by omega), if_pos ⟨q, hw⟩]
    have he : (zln T N s p).1 = zfsf T N (zlnL T N p) := by rw [hln]
    have t2 : zfsf T N (zlnL T N p) = if (zfsf T N [(zisLw T N (znx T N p), znx T N p, 2)]).1 = 0 then zfsf T N [(zisSg T N (znx T N (znx T N p)), znx T N (znx T N p), 2)] else zfsf T N [(zisLw T N (znx T N p), znx T N p, 2)] := zfsf_a (T := T) (N := N) (m := [(zisSg T N (znx T N (znx T N p)), znx T N (znx T N p), 2)]) (l := [(zisLw T N (znx T N p), znx T N p, 2)]) (by intro c hc; simp only [List.mem_cons, List.not_mem_nil, or_false] at hc; subst hc; (first | exact (by decide : (2 : Int) ≠ 0) | exact (by decide : (3 : Int) ≠ 0) | exact (by decide : (4 : Int) ≠ 0) | exact (by decide : (5 : Int) ≠ 0) | exact (by decide : (0 : Int) < 2) | exact (by decide : (0 : Int) < 3) | exact (by decide : (0 : Int) < 4) | exact (by decide : (0 : Int) < 5)))
    obtain ⟨x1, H1, ⟨f1, r1⟩, e1⟩ := c36 (w := w) (d := d + 1) (H := H) (p := znx T N p) b1.2.1 hT h2 C.1
    rw [e1, c32]
    rcases r1 with ⟨rfl, y1, C1, g9, g10⟩ | ⟨rfl, y1, g9, g10⟩
    · refine ⟨fun y => absurd y (by decide), fun _ => ?_⟩
      rw [if_pos y1] at t2
      have hk1 := of_decide_eq_true (zfsf_0 (by intro c hc; simp only [List.mem_cons, List.not_mem_nil, or_false] at hc; subst hc; (first | exact (by decide : (2 : Int) ≠ 0) | exact (by decide : (3 : Int) ≠ 0) | exact (by decide : (4 : Int) ≠ 0) | exact (by decide : (5 : Int) ≠ 0) | exact (by decide : (0 : Int) < 2) | exact (by decide : (0 : Int) < 3) | exact (by decide : (0 : Int) < 4) | exact (by decide : (0 : Int) < 5))) y1 (zisLw T N (znx T N p), znx T N p, 2) (by simp))
      rw [C1.2.2.2.1 hk1.1, zklaw_32 (zwd_let b1.2.1), show zklaw (zwd T N (znx T N p)) = zkw (zwd T N (znx T N p)) - 4 from if_pos hk1.2]
      have F1 : zfld H (zup H1 42 4 (zkw (zwd T N (znx T N p)) - 4)) := zfld_up (by omega) (zfld_39 zfld_rfl f1)
      have hT1 := zTx_cl F1 hT
      have h21 : zup H1 42 4 (zkw (zwd T N (znx T N p)) - 4) 33 2 = (N : Int) := (F1 33 2 (by omega) (by omega) (by omega) (by omega)).trans h2
      have C1' := zCt_22 (a := 42) (j := 4) (x := zkw (zwd T N (znx T N p)) - 4) (by omega) C1
      have n1 : zNmC (zup H1 42 4 (zkw (zwd T N (znx T N p)) - 4)) s.2 := fun k hk => by rw [zq_ne (by omega)]; exact zNmC_f f1 hn k hk
      have D0 := zDeC_f f1 hD
      have D1 : zDeC (zup H1 42 4 (zkw (zwd T N (znx T N p)) - 4)) 42 (s.1.1, s.1.2.1, s.1.2.2.1, zkw (zwd T N (znx T N p)) - 4) := by
        obtain ⟨d1, d2, d3, d4, d5⟩ := D0
        exact ⟨by rw [zq_ne (by omega)]; exact d1, by rw [zq_ne (by omega)]; exact d2, by rw [zq_ne (by omega)]; exact d3, zq_eq, zArr_eq (fun k _ => zq_ne (by omega)) d5⟩
      have g9' : zup H1 42 4 (zkw (zwd T N (znx T N p)) - 4) 33 9 = H 33 9 := by rw [zq_ne (by omega)]; exact g9
      have g10' : zup H1 42 4 (zkw (zwd T N (znx T N p)) - 4) 33 10 = H 33 10 := by rw [zq_ne (by omega)]; exact g10
      generalize zup H1 42 4 (zkw (zwd T N (znx T N p)) - 4) = H1b at F1 hT1 h21 C1' n1 D1 g9' g10' ⊢
      obtain ⟨x4, H4, ⟨f4, r4⟩, e4⟩ := c35 (w := w) (d := d + 5) (H := H1b) (p := znx T N (znx T N p)) b2.2.1 hT1 h21 C1'.1
      rw [e4]
      rcases r4 with ⟨rfl, y4, C4, j9, j10⟩ | ⟨rfl, y4, j9, j10⟩
      · refine ⟨fun y => absurd y (by decide), fun _ => ⟨zfld_39 F1 f4, Or.inl ⟨rfl, ?_, ?_, ?_, ?_, j9.trans g9', j10.trans g10'⟩⟩⟩
        · rw [he]
          exact (congrArg Prod.fst t2).trans y4
        · rw [hln]; exact C4.1
        · rw [hln]; exact zDeC_f f4 D1
        · rw [hln]; exact zNmC_f f4 n1
      · exact ⟨fun _ => zClh_bad (zfld_39 F1 f4) he t2 y4 j9 j10, fun y => absurd rfl y⟩
    · refine ⟨fun _ => ?_, fun y => absurd rfl y⟩
      rw [if_neg y1] at t2
      exact zClh_bad (zfld_up (by omega) (zfld_39 zfld_rfl f1)) he t2 y1 (by rw [zq_ne (by omega)]; exact g9) (by rw [zq_ne (by omega)]; exact g10)
/-- how the text ends -/
def zCp (r : (Int × Int) × zSta) (H0 : zHt) (x : Int) (H' : zHt) : Prop := zfld H0 H' ∧ ((x = 1 ∧ r.1.1 = 0 ∧ zDeC H' 42 r.2.1 ∧ H' 33 9 = H0 33 9 ∧ H' 33 10 = H0 33 10) ∨ (x = 0 ∧ r.1.1 ≠ 0 ∧ H' 33 9 = r.1.1 ∧ H' 33 10 = r.1.2))
theorem c14l {H0 : zHt} {r : (Int × Int) × zSta} : ∀ (F l p : Nat) (s : zSta) (H : zHt), F + l = N + 1 → p ≤ N → zOkS s → zTx H T N → H 33 2 = (N : Int) → H 33 3 = (p : Int) → zDeC H 42 s.1 → zNmC H s.2 → zfld H0 H → H 33 9 = H0 33 9 → H 33 10 = H0 33 10 → zps T N F s p = r → zgo w (d + 9) 14 38 [zR 33, zJ, zR 42, zI (l : Int)] [] H (zQI (zCp r H0)) := by
  intro F
  induction F with
  | zero =>
    intro l p s H hl hp hs hT h2 h3 hD hn hf h9 h10 hr
    refine x14_38 (Or.inr (Or.inl rfl)) ⟨fun _ => ⟨hf, Or.inl ⟨rfl, ?_, ?_, h9, h10⟩⟩, fun q => by rw [h2] at q; omega⟩
    · rw [← hr]; rfl
    · rw [← hr]; exact hD
  | succ F ih =>
    intro l p s H hl hp hs hT h2 h3 hD hn hf h9 h10 hr
    have h40 := hT.1
    obtain ⟨H1, ⟨f1, C1⟩, e1⟩ := c15 (w := w) (d := d + 7) hp hT h2 h3
    have g1 : zf39 H H1 := zf39_33 (fun _ _ _ => rfl) f1
    refine x14_38 (Or.inr (Or.inl rfl)) ⟨fun q => by rw [h2] at q; omega, fun _ => ?_⟩
    rw [e1, C1.2.2.1]
    have hr : (if zkd T N p = 0 then ((0, 0), s) else if (zln T N s p).1.1 = 0 then zps T N F (zln T N s p).2.2 (zln T N s p).2.1 else ((zln T N s p).1, s)) = r := hr
    refine ⟨fun q => ?_, fun q => ?_⟩
    · rw [if_neg q] at hr
      obtain ⟨x, H2, ⟨f2, r2⟩, e2⟩ := c19 (w := w) (d := d) (H := H1) (s := s) hp hs (zTx_39 g1 hT) ((f1 33 2 (by omega)).trans h2) C1 (zDeC_f g1 hD) (zNmC_f g1 hn)
      rw [e2]
      have hf2 : zfld H0 H2 := zfld_tr (zfld_39 hf g1) f2
      rcases r2 with ⟨rfl, y, k3, kD, kn, k9, k10⟩ | ⟨rfl, y, k9, k10⟩
      · refine ⟨fun _ => ?_, fun z => absurd z (by decide)⟩
        rw [if_pos y] at hr
        obtain ⟨o1, o2, o3⟩ := zln_ok hp hs y
        rw [zi1 (by omega)]
        exact ih (l + 1) (zln T N s p).2.1 (zln T N s p).2.2 H2 (by omega) o2 o1 (zTx_cl f2 (zTx_39 g1 hT)) ((f2 33 2 (by omega) (by omega) (by omega) (by omega)).trans ((f1 33 2 (by omega)).trans h2)) k3 kD kn hf2 (k9.trans ((f1 33 9 (by omega)).trans h9)) (k10.trans ((f1 33 10 (by omega)).trans h10)) hr
      · refine ⟨fun z => absurd rfl z, fun _ => ?_⟩
        rw [if_neg y] at hr
        exact ⟨hf2, Or.inr ⟨rfl, by rw [← hr]; exact y, by rw [← hr]; exact k9, by rw [← hr]; exact k10⟩⟩
    · rw [if_pos q] at hr
      exact ⟨zfld_39 hf g1, Or.inl ⟨rfl, by rw [← hr], by rw [← hr]; exact zDeC_f g1 hD, (f1 33 9 (by omega)).trans h9, (f1 33 10 (by omega)).trans h10⟩⟩
end Z74m
