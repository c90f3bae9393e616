/-! the invariant at the beginning -/
theorem zHs_v : ([(32, 14, 0), (81, 0, 0), (40, 4, 0), (82, 9, 0), (82, 6, 0), (40, 1, 0), (82, 7, 100000), (40, 2, 100000), (82, 8, 30), (40, 3, 30), (32, 12, -1), (81, 32, -1), (32, 13, -1), (81, 33, -1), (33, 8, 0), (81, 31, 0), (32, 11, 0), (81, 5, 0), (48, 1, 0), (81, 29, 0), (44, 0, 53), (44, 1, 55), (44, 2, 57), (44, 3, 59), (44, 4, 61), (44, 5, 63), (44, 6, 65), (44, 7, 67), (101, 0, 13550), (101, 1, 1373818), (101, 2, 10495135), (101, 3, 8798), (101, 4, 8740238), (101, 5, 8341892836), (101, 6, 7047854770), (101, 7, 40586)] : List (Int × Int × Int)).all (fun q => decide (zHs zX0 q.1 q.2.1 = q.2.2)) = true := by decide +kernel
theorem zHs_g {xs : Nat → Int32} {a j v : Int} (h : (a, j, v) ∈ ([(32, 14, 0), (81, 0, 0), (40, 4, 0), (82, 9, 0), (82, 6, 0), (40, 1, 0), (82, 7, 100000), (40, 2, 100000), (82, 8, 30), (40, 3, 30), (32, 12, -1), (81, 32, -1), (32, 13, -1), (81, 33, -1), (33, 8, 0), (81, 31, 0), (32, 11, 0), (81, 5, 0), (48, 1, 0), (81, 29, 0), (44, 0, 53), (44, 1, 55), (44, 2, 57), (44, 3, 59), (44, 4, 61), (44, 5, 63), (44, 6, 65), (44, 7, 67), (101, 0, 13550), (101, 1, 1373818), (101, 2, 10495135), (101, 3, 8798), (101, 4, 8740238), (101, 5, 8341892836), (101, 6, 7047854770), (101, 7, 40586)] : List (Int × Int × Int))) (ha : 32 ≤ a) : zHs xs a j = v := by
  have := List.all_eq_true.mp zHs_v (a, j, v) h
  rw [zHs_hi j ha]
  exact of_decide_eq_true this
theorem z93_up {H : zHt} {o i x : Int} (ho : 93 ≠ o) (h : ∀ j, H 93 j = 0) : ∀ j, zup H o i x 93 j = 0 := fun j => (zq_ne (fun q => ho q.1)).trans (h j)
theorem z93_new {H : zHt} {o : Int} {f : Int → Int} (ho : ¬ 93 = o) (h : ∀ j, H 93 j = 0) : ∀ j, znew H o f 93 j = 0 := fun j => by
  unfold znew
  rw [if_neg ho]; exact h j
theorem z93_hit {H : zHt} {f : Int → Int} (h : ∀ j, f j = 0) : ∀ j, znew H 93 f 93 j = 0 := fun j => by
  unfold znew
  rw [if_pos rfl]; exact h j
theorem zHs_93 {xs : Nat → Int32} : ∀ j, zHs xs 93 j = 0 := by
  unfold zHs
  repeat (first | refine z93_hit ?_ | refine z93_up (by decide) ?_ | refine z93_new (by decide) ?_)
  exact fun _ => rfl
theorem zbegin {xs : Nat → Int32} : zKept zAllR (zHs xs) := by
  have v : ∀ {a j v : Int}, (a, j, v) ∈ ([(32, 14, 0), (81, 0, 0), (40, 4, 0), (82, 9, 0), (82, 6, 0), (40, 1, 0), (82, 7, 100000), (40, 2, 100000), (82, 8, 30), (40, 3, 30), (32, 12, -1), (81, 32, -1), (32, 13, -1), (81, 33, -1), (33, 8, 0), (81, 31, 0), (32, 11, 0), (81, 5, 0), (48, 1, 0), (81, 29, 0), (44, 0, 53), (44, 1, 55), (44, 2, 57), (44, 3, 59), (44, 4, 61), (44, 5, 63), (44, 6, 65), (44, 7, 67), (101, 0, 13550), (101, 1, 1373818), (101, 2, 10495135), (101, 3, 8798), (101, 4, 8740238), (101, 5, 8341892836), (101, 6, 7047854770), (101, 7, 40586)] : List (Int × Int × Int)) → 32 ≤ a → zHs xs a j = v := fun h ha => zHs_g h ha
  have e401 : zHs xs 40 1 = 0 := v (by decide) (by decide)
  have e404 : zHs xs 40 4 = 0 := v (by decide) (by decide)
  have e402 : zHs xs 40 2 = 100000 := v (by decide) (by decide)
  have e403 : zHs xs 40 3 = 30 := v (by decide) (by decide)
  have e829 : zHs xs 82 9 = 0 := v (by decide) (by decide)
  have e826 : zHs xs 82 6 = 0 := v (by decide) (by decide)
  have e827 : zHs xs 82 7 = 100000 := v (by decide) (by decide)
  have e828 : zHs xs 82 8 = 30 := v (by decide) (by decide)
  have e338 : zHs xs 33 8 = 0 := v (by decide) (by decide)
  have e811 : zHs xs 81 31 = 0 := v (by decide) (by decide)
  have e321 : zHs xs 32 11 = 0 := v (by decide) (by decide)
  have e815 : zHs xs 81 5 = 0 := v (by decide) (by decide)
  have e481 : zHs xs 48 1 = 0 := v (by decide) (by decide)
  have e812 : zHs xs 81 29 = 0 := v (by decide) (by decide)
  have e44 : ∀ i : Nat, i < 8 → zHs xs 44 i = 53 + 2 * (i : Int) := fun i hi => by
    obtain rfl | rfl | rfl | rfl | rfl | rfl | rfl | rfl : i = 0 ∨ i = 1 ∨ i = 2 ∨ i = 3 ∨ i = 4 ∨ i = 5 ∨ i = 6 ∨ i = 7 := by omega
    all_goals exact v (by decide) (by decide)
  refine ⟨(v (by decide) (by decide) : zHs xs 32 14 = 0).trans (v (by decide) (by decide) : zHs xs 81 0 = 0).symm, ?_, ⟨⟨(v (by decide) (by decide) : zHs xs 32 12 = -1).trans (v (by decide) (by decide) : zHs xs 81 32 = -1).symm, (v (by decide) (by decide) : zHs xs 32 13 = -1).trans (v (by decide) (by decide) : zHs xs 81 33 = -1).symm⟩, ⟨fun j _ _ => zHs_93 j, fun k hk => by
    obtain rfl | rfl | rfl | rfl | rfl | rfl | rfl | rfl : k = 0 ∨ k = 1 ∨ k = 2 ∨ k = 3 ∨ k = 4 ∨ k = 5 ∨ k = 6 ∨ k = 7 := by omega
    all_goals exact v (by decide) (by decide)⟩⟩, ?_, ?_, ?_, fun r _ h _ => by rw [e401] at h; omega⟩
  · refine ⟨by rw [e404]; omega, by rw [e829, e404], by rw [e826, e401], by rw [e827, e402], by rw [e828, e403], by rw [e401]; omega, by rw [e402]; omega, by rw [e403]; omega, fun k hk => by rw [e401] at hk; omega⟩
  · exact ⟨by rw [e338, e811], by rw [e338]; omega, by rw [e338]; omega, fun k hk => by rw [e338] at hk; omega⟩
  · exact ⟨by rw [e321, e815], by rw [e815]; omega, by rw [e815]; omega, fun i hi => ⟨i, hi, e44 i hi⟩, fun i j hi hj e => by rw [e44 i hi, e44 j hj] at e; omega, fun i hi => by rw [e815] at hi; omega⟩
  · exact ⟨by rw [e481, e812], by rw [e481]; omega, by rw [e481]; omega, fun k h0 h1 => by rw [e481] at h1; omega⟩
