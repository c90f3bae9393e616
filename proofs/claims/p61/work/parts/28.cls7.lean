/-! the case load: its words, lines and text, told once; and the class -/
def zW0 : List Int := [23, 15, 18]
def zW1 : List Int := [4, 14, 21, 15, 2]
def zW2 : List Int := [19, 16, 5, 20, 19]
def zW3 : List Int := [23, 1, 12]
def zW4 : List Int := [14, 9, 1, 12, 16]
def zW5 : List Int := [25, 18, 1, 20, 9, 14, 21]
def zW6 : List Int := [4, 5, 3, 21, 4, 5, 18]
def zW7 : List Int := [5, 18, 1, 2]
/-- which word of the language a WORD is, or -1 -/
def zkw (l : List Int) : Int := if l = zW0 then 0 else if l = zW1 then 1 else if l = zW2 then 2 else if l = zW3 then 3 else if l = zW4 then 4 else if l = zW5 then 5 else if l = zW6 then 6 else if l = zW7 then 7 else -1
def zlet (l : List Int) : Prop := ∀ x ∈ l, 1 ≤ x ∧ x ≤ 26
theorem zW0_l : zlet zW0 := by unfold zlet zW0; decide
theorem zW0_32 {l : List Int} (h : zlet l) : zcdw 32 l = 18935 ↔ l = zW0 := ⟨fun e => zcdw_inj (b := 32) (by omega) h zW0_l (e.trans (show 18935 = zcdw 32 zW0 by decide +kernel)), fun e => by rw [e]; decide +kernel⟩
theorem zW1_l : zlet zW1 := by unfold zlet zW1; decide
theorem zW1_32 {l : List Int} (h : zlet l) : zcdw 32 l = 2610628 ↔ l = zW1 := ⟨fun e => zcdw_inj (b := 32) (by omega) h zW1_l (e.trans (show 2610628 = zcdw 32 zW1 by decide +kernel)), fun e => by rw [e]; decide +kernel⟩
theorem zW2_l : zlet zW2 := by unfold zlet zW2; decide
theorem zW2_32 {l : List Int} (h : zlet l) : zcdw 32 l = 20583955 ↔ l = zW2 := ⟨fun e => zcdw_inj (b := 32) (by omega) h zW2_l (e.trans (show 20583955 = zcdw 32 zW2 by decide +kernel)), fun e => by rw [e]; decide +kernel⟩
theorem zW3_l : zlet zW3 := by unfold zlet zW3; decide
theorem zW3_32 {l : List Int} (h : zlet l) : zcdw 32 l = 12343 ↔ l = zW3 := ⟨fun e => zcdw_inj (b := 32) (by omega) h zW3_l (e.trans (show 12343 = zcdw 32 zW3 by decide +kernel)), fun e => by rw [e]; decide +kernel⟩
theorem zW4_l : zlet zW4 := by unfold zlet zW4; decide
theorem zW4_32 {l : List Int} (h : zlet l) : zcdw 32 l = 17171758 ↔ l = zW4 := ⟨fun e => zcdw_inj (b := 32) (by omega) h zW4_l (e.trans (show 17171758 = zcdw 32 zW4 by decide +kernel)), fun e => by rw [e]; decide +kernel⟩
theorem zW5_l : zlet zW5 := by unfold zlet zW5; decide
theorem zW5_32 {l : List Int} (h : zlet l) : zcdw 32 l = 23028434521 ↔ l = zW5 := ⟨fun e => zcdw_inj (b := 32) (by omega) h zW5_l (e.trans (show 23028434521 = zcdw 32 zW5 by decide +kernel)), fun e => by rw [e]; decide +kernel⟩
theorem zW6_l : zlet zW6 := by unfold zlet zW6; decide
theorem zW6_32 {l : List Int} (h : zlet l) : zcdw 32 l = 19500010660 ↔ l = zW6 := ⟨fun e => zcdw_inj (b := 32) (by omega) h zW6_l (e.trans (show 19500010660 = zcdw 32 zW6 by decide +kernel)), fun e => by rw [e]; decide +kernel⟩
theorem zW7_l : zlet zW7 := by unfold zlet zW7; decide
theorem zW7_32 {l : List Int} (h : zlet l) : zcdw 32 l = 67141 ↔ l = zW7 := ⟨fun e => zcdw_inj (b := 32) (by omega) h zW7_l (e.trans (show 67141 = zcdw 32 zW7 by decide +kernel)), fun e => by rw [e]; decide +kernel⟩
theorem zkw_0 {l : List Int} : zkw l = 0 ↔ l = zW0 := by
  refine ⟨fun h => ?_, fun h => by rw [h]; decide⟩
  unfold zkw at h
  by_cases y : l = zW0
  · exact y
  · exfalso
    rw [if_neg y] at h
    by_cases z1 : l = zW1
    · rw [if_pos z1] at h; exact absurd h (by decide)
    rw [if_neg z1] at h
    by_cases z2 : l = zW2
    · rw [if_pos z2] at h; exact absurd h (by decide)
    rw [if_neg z2] at h
    by_cases z3 : l = zW3
    · rw [if_pos z3] at h; exact absurd h (by decide)
    rw [if_neg z3] at h
    by_cases z4 : l = zW4
    · rw [if_pos z4] at h; exact absurd h (by decide)
    rw [if_neg z4] at h
    by_cases z5 : l = zW5
    · rw [if_pos z5] at h; exact absurd h (by decide)
    rw [if_neg z5] at h
    by_cases z6 : l = zW6
    · rw [if_pos z6] at h; exact absurd h (by decide)
    rw [if_neg z6] at h
    by_cases z7 : l = zW7
    · rw [if_pos z7] at h; exact absurd h (by decide)
    rw [if_neg z7] at h
    exact absurd h (by decide)
theorem zkw_1 {l : List Int} : zkw l = 1 ↔ l = zW1 := by
  refine ⟨fun h => ?_, fun h => by rw [h]; decide⟩
  unfold zkw at h
  by_cases y : l = zW1
  · exact y
  · exfalso
    by_cases z0 : l = zW0
    · rw [if_pos z0] at h; exact absurd h (by decide)
    rw [if_neg z0] at h
    rw [if_neg y] at h
    by_cases z2 : l = zW2
    · rw [if_pos z2] at h; exact absurd h (by decide)
    rw [if_neg z2] at h
    by_cases z3 : l = zW3
    · rw [if_pos z3] at h; exact absurd h (by decide)
    rw [if_neg z3] at h
    by_cases z4 : l = zW4
    · rw [if_pos z4] at h; exact absurd h (by decide)
    rw [if_neg z4] at h
    by_cases z5 : l = zW5
    · rw [if_pos z5] at h; exact absurd h (by decide)
    rw [if_neg z5] at h
    by_cases z6 : l = zW6
    · rw [if_pos z6] at h; exact absurd h (by decide)
    rw [if_neg z6] at h
    by_cases z7 : l = zW7
    · rw [if_pos z7] at h; exact absurd h (by decide)
    rw [if_neg z7] at h
    exact absurd h (by decide)
theorem zkw_2 {l : List Int} : zkw l = 2 ↔ l = zW2 := by
  refine ⟨fun h => ?_, fun h => by rw [h]; decide⟩
  unfold zkw at h
  by_cases y : l = zW2
  · exact y
  · exfalso
    by_cases z0 : l = zW0
    · rw [if_pos z0] at h; exact absurd h (by decide)
    rw [if_neg z0] at h
    by_cases z1 : l = zW1
    · rw [if_pos z1] at h; exact absurd h (by decide)
    rw [if_neg z1] at h
    rw [if_neg y] at h
    by_cases z3 : l = zW3
    · rw [if_pos z3] at h; exact absurd h (by decide)
    rw [if_neg z3] at h
    by_cases z4 : l = zW4
    · rw [if_pos z4] at h; exact absurd h (by decide)
    rw [if_neg z4] at h
    by_cases z5 : l = zW5
    · rw [if_pos z5] at h; exact absurd h (by decide)
    rw [if_neg z5] at h
    by_cases z6 : l = zW6
    · rw [if_pos z6] at h; exact absurd h (by decide)
    rw [if_neg z6] at h
    by_cases z7 : l = zW7
    · rw [if_pos z7] at h; exact absurd h (by decide)
    rw [if_neg z7] at h
    exact absurd h (by decide)
theorem zkw_3 {l : List Int} : zkw l = 3 ↔ l = zW3 := by
  refine ⟨fun h => ?_, fun h => by rw [h]; decide⟩
  unfold zkw at h
  by_cases y : l = zW3
  · exact y
  · exfalso
    by_cases z0 : l = zW0
    · rw [if_pos z0] at h; exact absurd h (by decide)
    rw [if_neg z0] at h
    by_cases z1 : l = zW1
    · rw [if_pos z1] at h; exact absurd h (by decide)
    rw [if_neg z1] at h
    by_cases z2 : l = zW2
    · rw [if_pos z2] at h; exact absurd h (by decide)
    rw [if_neg z2] at h
    rw [if_neg y] at h
    by_cases z4 : l = zW4
    · rw [if_pos z4] at h; exact absurd h (by decide)
    rw [if_neg z4] at h
    by_cases z5 : l = zW5
    · rw [if_pos z5] at h; exact absurd h (by decide)
    rw [if_neg z5] at h
    by_cases z6 : l = zW6
    · rw [if_pos z6] at h; exact absurd h (by decide)
    rw [if_neg z6] at h
    by_cases z7 : l = zW7
    · rw [if_pos z7] at h; exact absurd h (by decide)
    rw [if_neg z7] at h
    exact absurd h (by decide)
theorem zkw_4 {l : List Int} : zkw l = 4 ↔ l = zW4 := by
  refine ⟨fun h => ?_, fun h => by rw [h]; decide⟩
  unfold zkw at h
  by_cases y : l = zW4
  · exact y
  · exfalso
    by_cases z0 : l = zW0
    · rw [if_pos z0] at h; exact absurd h (by decide)
    rw [if_neg z0] at h
    by_cases z1 : l = zW1
    · rw [if_pos z1] at h; exact absurd h (by decide)
    rw [if_neg z1] at h
    by_cases z2 : l = zW2
    · rw [if_pos z2] at h; exact absurd h (by decide)
    rw [if_neg z2] at h
    by_cases z3 : l = zW3
    · rw [if_pos z3] at h; exact absurd h (by decide)
    rw [if_neg z3] at h
    rw [if_neg y] at h
    by_cases z5 : l = zW5
    · rw [if_pos z5] at h; exact absurd h (by decide)
    rw [if_neg z5] at h
    by_cases z6 : l = zW6
    · rw [if_pos z6] at h; exact absurd h (by decide)
    rw [if_neg z6] at h
    by_cases z7 : l = zW7
    · rw [if_pos z7] at h; exact absurd h (by decide)
    rw [if_neg z7] at h
    exact absurd h (by decide)
theorem zkw_5 {l : List Int} : zkw l = 5 ↔ l = zW5 := by
  refine ⟨fun h => ?_, fun h => by rw [h]; decide⟩
  unfold zkw at h
  by_cases y : l = zW5
  · exact y
  · exfalso
    by_cases z0 : l = zW0
    · rw [if_pos z0] at h; exact absurd h (by decide)
    rw [if_neg z0] at h
    by_cases z1 : l = zW1
    · rw [if_pos z1] at h; exact absurd h (by decide)
    rw [if_neg z1] at h
    by_cases z2 : l = zW2
    · rw [if_pos z2] at h; exact absurd h (by decide)
    rw [if_neg z2] at h
    by_cases z3 : l = zW3
    · rw [if_pos z3] at h; exact absurd h (by decide)
    rw [if_neg z3] at h
    by_cases z4 : l = zW4
    · rw [if_pos z4] at h; exact absurd h (by decide)
    rw [if_neg z4] at h
    rw [if_neg y] at h
    by_cases z6 : l = zW6
    · rw [if_pos z6] at h; exact absurd h (by decide)
    rw [if_neg z6] at h
    by_cases z7 : l = zW7
    · rw [if_pos z7] at h; exact absurd h (by decide)
    rw [if_neg z7] at h
    exact absurd h (by decide)
theorem zkw_6 {l : List Int} : zkw l = 6 ↔ l = zW6 := by
  refine ⟨fun h => ?_, fun h => by rw [h]; decide⟩
  unfold zkw at h
  by_cases y : l = zW6
  · exact y
  · exfalso
    by_cases z0 : l = zW0
    · rw [if_pos z0] at h; exact absurd h (by decide)
    rw [if_neg z0] at h
    by_cases z1 : l = zW1
    · rw [if_pos z1] at h; exact absurd h (by decide)
    rw [if_neg z1] at h
    by_cases z2 : l = zW2
    · rw [if_pos z2] at h; exact absurd h (by decide)
    rw [if_neg z2] at h
    by_cases z3 : l = zW3
    · rw [if_pos z3] at h; exact absurd h (by decide)
    rw [if_neg z3] at h
    by_cases z4 : l = zW4
    · rw [if_pos z4] at h; exact absurd h (by decide)
    rw [if_neg z4] at h
    by_cases z5 : l = zW5
    · rw [if_pos z5] at h; exact absurd h (by decide)
    rw [if_neg z5] at h
    rw [if_neg y] at h
    by_cases z7 : l = zW7
    · rw [if_pos z7] at h; exact absurd h (by decide)
    rw [if_neg z7] at h
    exact absurd h (by decide)
theorem zkw_7 {l : List Int} : zkw l = 7 ↔ l = zW7 := by
  refine ⟨fun h => ?_, fun h => by rw [h]; decide⟩
  unfold zkw at h
  by_cases y : l = zW7
  · exact y
  · exfalso
    by_cases z0 : l = zW0
    · rw [if_pos z0] at h; exact absurd h (by decide)
    rw [if_neg z0] at h
    by_cases z1 : l = zW1
    · rw [if_pos z1] at h; exact absurd h (by decide)
    rw [if_neg z1] at h
    by_cases z2 : l = zW2
    · rw [if_pos z2] at h; exact absurd h (by decide)
    rw [if_neg z2] at h
    by_cases z3 : l = zW3
    · rw [if_pos z3] at h; exact absurd h (by decide)
    rw [if_neg z3] at h
    by_cases z4 : l = zW4
    · rw [if_pos z4] at h; exact absurd h (by decide)
    rw [if_neg z4] at h
    by_cases z5 : l = zW5
    · rw [if_pos z5] at h; exact absurd h (by decide)
    rw [if_neg z5] at h
    by_cases z6 : l = zW6
    · rw [if_pos z6] at h; exact absurd h (by decide)
    rw [if_neg z6] at h
    rw [if_neg y] at h
    exact absurd h (by decide)
theorem zkw_in {l : List Int} : zkw l = -1 ∨ 0 ≤ zkw l ∧ zkw l ≤ 7 := by
  unfold zkw
  by_cases z0 : l = zW0
  · rw [if_pos z0]; omega
  rw [if_neg z0]
  by_cases z1 : l = zW1
  · rw [if_pos z1]; omega
  rw [if_neg z1]
  by_cases z2 : l = zW2
  · rw [if_pos z2]; omega
  rw [if_neg z2]
  by_cases z3 : l = zW3
  · rw [if_pos z3]; omega
  rw [if_neg z3]
  by_cases z4 : l = zW4
  · rw [if_pos z4]; omega
  rw [if_neg z4]
  by_cases z5 : l = zW5
  · rw [if_pos z5]; omega
  rw [if_neg z5]
  by_cases z6 : l = zW6
  · rw [if_pos z6]; omega
  rw [if_neg z6]
  by_cases z7 : l = zW7
  · rw [if_pos z7]; omega
  rw [if_neg z7]
  exact Or.inl rfl
def zklin (l : List Int) : Int := if 0 ≤ zkw l ∧ zkw l ≤ 3 then zkw l else -1
def zklaw (l : List Int) : Int := if 4 ≤ zkw l then zkw l - 4 else -1
theorem zklin_32 {l : List Int} (h : zlet l) : (if zcdw 32 l = 18935 then 0 else if zcdw 32 l = 2610628 then 1 else if zcdw 32 l = 20583955 then 2 else if zcdw 32 l = 12343 then 3 else -1) = zklin l := by
  by_cases z0 : l = zW0
  · rw [if_pos ((zW0_32 h).mpr z0)]; subst z0; decide
  rw [if_neg (fun q => z0 ((zW0_32 h).mp q))]
  by_cases z1 : l = zW1
  · rw [if_pos ((zW1_32 h).mpr z1)]; subst z1; decide
  rw [if_neg (fun q => z1 ((zW1_32 h).mp q))]
  by_cases z2 : l = zW2
  · rw [if_pos ((zW2_32 h).mpr z2)]; subst z2; decide
  rw [if_neg (fun q => z2 ((zW2_32 h).mp q))]
  by_cases z3 : l = zW3
  · rw [if_pos ((zW3_32 h).mpr z3)]; subst z3; decide
  rw [if_neg (fun q => z3 ((zW3_32 h).mp q))]
  have i := zkw_in (l := l)
  have n0 : zkw l ≠ 0 := fun q => z0 (zkw_0.mp q)
  have n1 : zkw l ≠ 1 := fun q => z1 (zkw_1.mp q)
  have n2 : zkw l ≠ 2 := fun q => z2 (zkw_2.mp q)
  have n3 : zkw l ≠ 3 := fun q => z3 (zkw_3.mp q)
  unfold zklin
  rw [if_neg (by omega)]
theorem zklaw_32 {l : List Int} (h : zlet l) : (if zcdw 32 l = 17171758 then 0 else if zcdw 32 l = 23028434521 then 1 else if zcdw 32 l = 19500010660 then 2 else if zcdw 32 l = 67141 then 3 else -1) = zklaw l := by
  by_cases z4 : l = zW4
  · rw [if_pos ((zW4_32 h).mpr z4)]; subst z4; decide
  rw [if_neg (fun q => z4 ((zW4_32 h).mp q))]
  by_cases z5 : l = zW5
  · rw [if_pos ((zW5_32 h).mpr z5)]; subst z5; decide
  rw [if_neg (fun q => z5 ((zW5_32 h).mp q))]
  by_cases z6 : l = zW6
  · rw [if_pos ((zW6_32 h).mpr z6)]; subst z6; decide
  rw [if_neg (fun q => z6 ((zW6_32 h).mp q))]
  by_cases z7 : l = zW7
  · rw [if_pos ((zW7_32 h).mpr z7)]; subst z7; decide
  rw [if_neg (fun q => z7 ((zW7_32 h).mp q))]
  have i := zkw_in (l := l)
  have n0 : zkw l ≠ 4 := fun q => z4 (zkw_4.mp q)
  have n1 : zkw l ≠ 5 := fun q => z5 (zkw_5.mp q)
  have n2 : zkw l ≠ 6 := fun q => z6 (zkw_6.mp q)
  have n3 : zkw l ≠ 7 := fun q => z7 (zkw_7.mp q)
  unfold zklaw
  rw [if_neg (by omega)]
theorem zwd_let {T : Nat → Int} {N p : Nat} (hp : p ≤ N) : zlet (zwd T N p) := by
  have b1 : p ≤ zqq T N p ∧ zqq T N p ≤ N := zend_b (P := zbl T) hp
  have b2 : zqq T N p ≤ zle2 T N p ∧ zle2 T N p ≤ N := zend_b (P := zlr T) (N := N) (p := zqq T N p) b1.2
  exact zlt2_in (fun i hi => of_decide_eq_true (zend_in (P := zlr T) (c := N - zqq T N p) (p := zqq T N p) (i := zqq T N p + i) (by omega) (by omega) (show _ < zle2 T N p by omega)))
/-- the first check that fails: its kind, its place -/
def zfsf (T : Nat → Int) (N : Nat) : List (Bool × Nat × Int) → Int × Int
  | [] => (0, 0)
  | c :: l => if c.1 = true then zfsf T N l else (if c.2.2 = 2 ∧ zkd T N c.2.1 = 4 then 1 else c.2.2, ((zqq T N c.2.1 : Nat) : Int))
def zisNm (T : Nat → Int) (N p : Nat) : Bool := decide (zkd T N p = 1 ∧ zkw (zwd T N p) = -1)
def zisNu (T : Nat → Int) (N p : Nat) : Bool := decide (zkd T N p = 2)
def zrgn (T : Nat → Int) (N p : Nat) (most : Int) : Bool := decide (1 ≤ znm T N p ∧ znm T N p ≤ most)
def zisSg (T : Nat → Int) (N p : Nat) : Bool := decide (zkd T N p = 3)
def zisLw (T : Nat → Int) (N p : Nat) : Bool := decide (zkd T N p = 1 ∧ 4 ≤ zkw (zwd T N p))
abbrev zSta : Type := (List Int × Int × Int × Int) × List (List Int)
def zlnR (T : Nat → Int) (N : Nat) (s : zSta) (p : Nat) : List (Bool × Nat × Int) := [(decide (s.1.1.length < 6), p, 5), (zisNm T N (znx T N p), znx T N p, 2), (decide (zwd T N (znx T N p) ∉ s.2), znx T N p, 4), (zisNu T N (znx T N (znx T N p)), znx T N (znx T N p), 2), (zrgn T N (znx T N (znx T N p)) 999999999, znx T N (znx T N p), 3), (zisSg T N (znx T N (znx T N (znx T N p))), znx T N (znx T N (znx T N p)), 2)]
def zlnB (T : Nat → Int) (N : Nat) (p : Nat) (most : Int) : List (Bool × Nat × Int) := [(zisNu T N (znx T N p), znx T N p, 2), (zrgn T N (znx T N p) most, znx T N p, 3), (zisSg T N (znx T N (znx T N p)), znx T N (znx T N p), 2)]
def zlnL (T : Nat → Int) (N : Nat) (p : Nat) : List (Bool × Nat × Int) := [(zisLw T N (znx T N p), znx T N p, 2), (zisSg T N (znx T N (znx T N p)), znx T N (znx T N p), 2)]
/-- a LINE whose first TOKEN stands behind p: fault, where it ends, the state behind it -/
def zln (T : Nat → Int) (N : Nat) (s : zSta) (p : Nat) : (Int × Int) × Nat × zSta :=
  if zkd T N p = 1 ∧ zkw (zwd T N p) = 0 then (zfsf T N (zlnR T N s p), znx T N (znx T N (znx T N (znx T N p))), ((s.1.1 ++ [znm T N (znx T N (znx T N p))], s.1.2), s.2 ++ [zwd T N (znx T N p)]))
  else if zkd T N p = 1 ∧ zkw (zwd T N p) = 1 then (zfsf T N (zlnB T N p 999999999), znx T N (znx T N (znx T N p)), ((s.1.1, znm T N (znx T N p), s.1.2.2), s.2))
  else if zkd T N p = 1 ∧ zkw (zwd T N p) = 2 then (zfsf T N (zlnB T N p 100), znx T N (znx T N (znx T N p)), ((s.1.1, s.1.2.1, znm T N (znx T N p), s.1.2.2.2), s.2))
  else if zkd T N p = 1 ∧ zkw (zwd T N p) = 3 then (zfsf T N (zlnL T N p), znx T N (znx T N (znx T N p)), ((s.1.1, s.1.2.1, s.1.2.2.1, zkw (zwd T N (znx T N p)) - 4), s.2))
  else (zfsf T N [(false, p, 2)], p, s)
def zps (T : Nat → Int) (N : Nat) : Nat → zSta → Nat → (Int × Int) × zSta
  | 0, s, _ => ((0, 0), s)
  | F + 1, s, p => if zkd T N p = 0 then ((0, 0), s) else if (zln T N s p).1.1 = 0 then zps T N F (zln T N s p).2.2 (zln T N s p).2.1 else ((zln T N s p).1, s)
def zOkS (s : zSta) : Prop := zOkD s.1 ∧ s.2.length = s.1.1.length ∧ ∀ l ∈ s.2, zlet l
theorem zfsf_t {T : Nat → Int} {N : Nat} {c : Bool × Nat × Int} {l : List (Bool × Nat × Int)} (h : c.1 = true) : zfsf T N (c :: l) = zfsf T N l := if_pos h
theorem zfsf_f {T : Nat → Int} {N : Nat} {c : Bool × Nat × Int} {l : List (Bool × Nat × Int)} (h : c.1 = false) : zfsf T N (c :: l) = (if c.2.2 = 2 ∧ zkd T N c.2.1 = 4 then 1 else c.2.2, ((zqq T N c.2.1 : Nat) : Int)) := if_neg (by rw [h]; decide)
/-- without a fault all checks hold -/
theorem zfsf_0 {T : Nat → Int} {N : Nat} : ∀ {l : List (Bool × Nat × Int)}, (∀ c ∈ l, c.2.2 ≠ 0) → (zfsf T N l).1 = 0 → ∀ c ∈ l, c.1 = true
  | [], _, _, c, hc => by cases hc
  | a :: l, hk, h, c, hc => by
    cases ha : a.1 with
    | false =>
      rw [zfsf_f ha] at h
      have := hk a List.mem_cons_self
      have h : (if a.2.2 = 2 ∧ zkd T N a.2.1 = 4 then 1 else a.2.2) = (0 : Int) := h
      split at h
      · omega
      · exact absurd h this
    | true =>
      rw [zfsf_t ha] at h
      rcases List.mem_cons.mp hc with z | z
      · rw [z]; exact ha
      · exact zfsf_0 (fun b hb => hk b (List.mem_cons_of_mem _ hb)) h c z
theorem zln_ok {T : Nat → Int} {N p : Nat} {s : zSta} (hp : p ≤ N) (hs : zOkS s) (h : (zln T N s p).1.1 = 0) : zOkS (zln T N s p).2.2 ∧ (zln T N s p).2.1 ≤ N ∧ p < (zln T N s p).2.1 := by
  have b1 := znx_b (T := T) hp
  have b2 := znx_b (T := T) b1.2.1
  have b3 := znx_b (T := T) b2.2.1
  have b4 := znx_b (T := T) b3.2.1
  obtain ⟨⟨v1, v2, v3, v4, v5, v6⟩, s2, s3⟩ := hs
  unfold zln at h ⊢
  split at h
  · rename_i z
    rw [if_pos z]
    have hc := zfsf_0 (l := zlnR T N s p) (by unfold zlnR; intro c hc; simp only [List.mem_cons, List.not_mem_nil, or_false] at hc; rcases hc with rfl | rfl | rfl | rfl | rfl | rfl <;> (first | exact (by decide : (2 : Int) ≠ 0) | exact (by decide : (3 : Int) ≠ 0) | exact (by decide : (4 : Int) ≠ 0) | exact (by decide : (5 : Int) ≠ 0) | exact (by decide : (0 : Int) < 2) | exact (by decide : (0 : Int) < 3) | exact (by decide : (0 : Int) < 4) | exact (by decide : (0 : Int) < 5))) h
    unfold zlnR at hc
    have c1 := of_decide_eq_true (hc (decide (s.1.1.length < 6), p, 5) (by simp))
    have c5 := of_decide_eq_true (hc (zrgn T N (znx T N (znx T N p)) 999999999, znx T N (znx T N p), 3) (by simp))
    refine ⟨⟨⟨?_, ?_, v3, v4, v5, v6⟩, ?_, ?_⟩, b4.2.1, ?_⟩
    · show (s.1.1 ++ [znm T N (znx T N (znx T N p))]).length ≤ 6
      rw [List.length_append]
      show s.1.1.length + 1 ≤ 6
      omega
    · intro k hk
      show 1 ≤ (s.1.1 ++ [znm T N (znx T N (znx T N p))]).getD k 0 ∧ (s.1.1 ++ [znm T N (znx T N (znx T N p))]).getD k 0 ≤ 999999999
      have hk : k < (s.1.1 ++ [znm T N (znx T N (znx T N p))]).length := hk
      rw [List.length_append] at hk
      have hk : k < s.1.1.length + 1 := hk
      rw [List.getD_eq_getElem?_getD]
      by_cases y : k < s.1.1.length
      · rw [List.getElem?_append_left y, ← List.getD_eq_getElem?_getD]; exact v2 k y
      · have : k = s.1.1.length := by omega
        rw [this, List.getElem?_append_right (Nat.le_refl _), Nat.sub_self]; exact c5
    · show (s.2 ++ [zwd T N (znx T N p)]).length = (s.1.1 ++ [znm T N (znx T N (znx T N p))]).length
      rw [List.length_append, List.length_append, s2]; rfl
    · intro l hl
      rcases List.mem_append.mp hl with y | y
      · exact s3 l y
      · rw [List.mem_singleton.mp y]; exact zwd_let b1.2.1
    · show p < znx T N (znx T N (znx T N (znx T N p)))
      have := b1.2.2 (by omega); omega
  · rename_i z0
    rw [if_neg z0]
    split at h
    · rename_i z
      rw [if_pos z]
      have hc := zfsf_0 (l := zlnB T N p 999999999) (by unfold zlnB; intro c hc; simp only [List.mem_cons, List.not_mem_nil, or_false] at hc; rcases hc with rfl | rfl | rfl <;> (first | exact (by decide : (2 : Int) ≠ 0) | exact (by decide : (3 : Int) ≠ 0) | exact (by decide : (4 : Int) ≠ 0) | exact (by decide : (5 : Int) ≠ 0) | exact (by decide : (0 : Int) < 2) | exact (by decide : (0 : Int) < 3) | exact (by decide : (0 : Int) < 4) | exact (by decide : (0 : Int) < 5))) h
      unfold zlnB at hc
      have c5 := of_decide_eq_true (hc (zrgn T N (znx T N p) 999999999, znx T N p, 3) (by simp))
      exact ⟨⟨⟨v1, v2, c5, v4, v5, v6⟩, s2, s3⟩, b3.2.1, Nat.lt_of_lt_of_le (b1.2.2 (by omega)) (Nat.le_trans b2.1 b3.1)⟩
    · rename_i z1
      rw [if_neg z1]
      split at h
      · rename_i z
        rw [if_pos z]
        have hc := zfsf_0 (l := zlnB T N p 100) (by unfold zlnB; intro c hc; simp only [List.mem_cons, List.not_mem_nil, or_false] at hc; rcases hc with rfl | rfl | rfl <;> (first | exact (by decide : (2 : Int) ≠ 0) | exact (by decide : (3 : Int) ≠ 0) | exact (by decide : (4 : Int) ≠ 0) | exact (by decide : (5 : Int) ≠ 0) | exact (by decide : (0 : Int) < 2) | exact (by decide : (0 : Int) < 3) | exact (by decide : (0 : Int) < 4) | exact (by decide : (0 : Int) < 5))) h
        unfold zlnB at hc
        have c5 := of_decide_eq_true (hc (zrgn T N (znx T N p) 100, znx T N p, 3) (by simp))
        exact ⟨⟨⟨v1, v2, v3, c5, v5, v6⟩, s2, s3⟩, b3.2.1, Nat.lt_of_lt_of_le (b1.2.2 (by omega)) (Nat.le_trans b2.1 b3.1)⟩
      · rename_i z2
        rw [if_neg z2]
        split at h
        · rename_i z
          rw [if_pos z]
          have hc := zfsf_0 (l := zlnL T N p) (by unfold zlnL; intro c hc; simp only [List.mem_cons, List.not_mem_nil, or_false] at hc; rcases hc with rfl | rfl <;> (first | exact (by decide : (2 : Int) ≠ 0) | exact (by decide : (3 : Int) ≠ 0) | exact (by decide : (4 : Int) ≠ 0) | exact (by decide : (5 : Int) ≠ 0) | exact (by decide : (0 : Int) < 2) | exact (by decide : (0 : Int) < 3) | exact (by decide : (0 : Int) < 4) | exact (by decide : (0 : Int) < 5))) h
          unfold zlnL at hc
          have c5 := of_decide_eq_true (hc (zisLw T N (znx T N p), znx T N p, 2) (by simp))
          have i := zkw_in (l := zwd T N (znx T N p))
          refine ⟨⟨⟨v1, v2, v3, v4, ?_, ?_⟩, s2, s3⟩, b3.2.1, Nat.lt_of_lt_of_le (b1.2.2 (by omega)) (Nat.le_trans b2.1 b3.1)⟩
          · show 0 ≤ zkw (zwd T N (znx T N p)) - 4; omega
          · show zkw (zwd T N (znx T N p)) - 4 ≤ 3; omega
        · exfalso
          have h : (if (2 : Int) = 2 ∧ zkd T N p = 4 then 1 else 2) = (0 : Int) := h
          split at h <;> omega

/-! the case load: the class's line and text -/
def zf39 (H H' : zHt) : Prop := ∀ a j : Int, ¬ (a = 33 ∧ (3 ≤ j ∧ j ≤ 7 ∨ j = 9 ∨ j = 10)) → H' a j = H a j
theorem zf39_33 {H0 H H' : zHt} (h : zf39 H0 H) (f : zf33 H H') : zf39 H0 H' := fun a j q => (f a j (fun z => q ⟨z.1, Or.inl z.2⟩)).trans (h a j q)
theorem zf39_up {H0 H : zHt} {j x : Int} (hj : 3 ≤ j ∧ j ≤ 7 ∨ j = 9 ∨ j = 10) (h : zf39 H0 H) : zf39 H0 (zup H 33 j x) := fun a i q => by
  rw [zq_ne (fun z => q ⟨z.1, by rw [z.2]; exact hj⟩)]; exact h a i q
def zfld (H H' : zHt) : Prop := ∀ a j : Int, ¬ (a = 33 ∧ (3 ≤ j ∧ j ≤ 7 ∨ j = 9 ∨ j = 10)) → a ≠ 35 → a ≠ 42 → a ≠ 43 → H' a j = H a j
theorem zfld_39 {H0 H H' : zHt} (h : zfld H0 H) (f : zf39 H H') : zfld H0 H' := fun a j q q1 q2 q3 => (f a j q).trans (h a j q q1 q2 q3)
theorem zfld_up {H0 H : zHt} {a j x : Int} (ha : a = 35 ∨ a = 42 ∨ a = 43) (h : zfld H0 H) : zfld H0 (zup H a j x) := fun b i q q1 q2 q3 => by
  rw [zq_ne (by omega)]; exact h b i q q1 q2 q3
theorem zfld_tr {H H1 H2 : zHt} (h1 : zfld H H1) (h2 : zfld H1 H2) : zfld H H2 := fun a j q q1 q2 q3 => (h2 a j q q1 q2 q3).trans (h1 a j q q1 q2 q3)
theorem zfld_rfl {H : zHt} : zfld H H := fun _ _ _ _ _ _ => rfl
/-- how a reading step ends: the TOKEN behind p stands, or the fault is told -/
def zCr (T : Nat → Int) (N : Nat) (L : List (Bool × Nat × Int)) (p : Nat) (H0 : zHt) (x : Int) (H' : zHt) : Prop := zf39 H0 H' ∧ ((x = 1 ∧ (zfsf T N L).1 = 0 ∧ zCt H' T N p ∧ H' 33 9 = H0 33 9 ∧ H' 33 10 = H0 33 10) ∨ (x = 0 ∧ (zfsf T N L).1 ≠ 0 ∧ H' 33 9 = (zfsf T N L).1 ∧ H' 33 10 = (zfsf T N L).2))
section Z74l
variable {w : zWt} {d : Nat} {H : zHt} {T : Nat → Int} {N : Nat}
theorem zTx_39 {H' : zHt} (f : zf39 H H') (hT : zTx H T N) : zTx H' T N := ⟨hT.1, fun k hk => by rw [f 34 k (by omega)]; exact hT.2 k hk⟩
theorem zTx_cl {H' : zHt} (f : zfld H H') (hT : zTx H T N) : zTx H' T N := ⟨hT.1, fun k hk => by rw [f 34 k (by omega) (by omega) (by omega) (by omega)]; exact hT.2 k hk⟩
theorem c20 {k : Int} {K : Int → zHt → Prop} : zclI w d 20 [zR 33, zI k] H K = K 0 (zup (zup H 33 9 (if H 33 5 = 4 then 1 else k)) 33 10 (H 33 4)) := zclI_eq fun K h => x20_0 ⟨fun q => by rwa [if_neg q] at h, fun q => by rwa [if_pos q] at h⟩
/-- a check at the TOKEN that stands -/
theorem zCr_fail {L : List (Bool × Nat × Int)} {p : Nat} {k : Int} {H0 : zHt} (hf : zf39 H0 H) (hC : zCt H T N p) (hk : k ≠ 0) (hL : zfsf T N L = (if k = 2 ∧ zkd T N p = 4 then 1 else k, ((zqq T N p : Nat) : Int))) (h4 : zkd T N p = 4 → k = 2) (q : Nat) : zCr T N L q H0 0 (zup (zup H 33 9 (if H 33 5 = 4 then 1 else k)) 33 10 (H 33 4)) := by
  refine ⟨zf39_up (by omega) (zf39_up (by omega) hf), Or.inr ⟨rfl, ?_, ?_, ?_⟩⟩
  · rw [hL]
    show (if k = 2 ∧ zkd T N p = 4 then 1 else k) ≠ (0 : Int)
    split
    · decide
    · exact hk
  · rw [zq_ne (by omega), zq_eq, hL, hC.2.2.1]
    show _ = (if k = 2 ∧ zkd T N p = 4 then 1 else k)
    by_cases z : zkd T N p = 4
    · rw [if_pos z, if_pos ⟨h4 z, z⟩]
    · rw [if_neg z, if_neg (fun y => z y.2)]
  · rw [zq_eq, hL]; exact hC.2.1
theorem c35 {p : Nat} (hp : p ≤ N) (hT : zTx H T N) (h2 : H 33 2 = (N : Int)) (h3 : H 33 3 = (p : Int)) : ∃ x H', zCr T N [(zisSg T N p, p, 2)] p H x H' ∧ ∀ K : Int → zHt → Prop, zclI w (d + 2) 35 [zR 33] H K = K x H' := by
  obtain ⟨H1, ⟨f, C⟩, e⟩ := c15 (w := w) (d := d) hp hT h2 h3
  refine zclI_ex (x35_0 ?_)
  rw [e, C.2.2.1]
  refine ⟨fun q => ?_, fun q => ?_⟩
  · refine ⟨zf39_33 (fun _ _ _ => rfl) f, Or.inl ⟨rfl, ?_, C, f 33 9 (by omega), f 33 10 (by omega)⟩⟩
    rw [zfsf_t (decide_eq_true q)]; rfl
  · rw [c20]
    exact ⟨fun _ => zCr_fail (zf39_33 (fun _ _ _ => rfl) f) C (by decide) (zfsf_f (decide_eq_false q)) (fun _ => rfl) p, fun z => absurd rfl z⟩
theorem c33 {p : Nat} {most : Int} (hp : p ≤ N) (hT : zTx H T N) (h2 : H 33 2 = (N : Int)) (h3 : H 33 3 = (p : Int)) : ∃ x H', zCr T N [(zisNu T N p, p, 2), (zrgn T N p most, p, 3)] p H x H' ∧ ∀ K : Int → zHt → Prop, zclI w (d + 2) 33 [zR 33, zI most] H K = K x H' := by
  obtain ⟨H1, ⟨f, C⟩, e⟩ := c15 (w := w) (d := d) hp hT h2 h3
  have F : zf39 H H1 := zf39_33 (fun _ _ _ => rfl) f
  refine zclI_ex (x33_0 ?_)
  rw [e, C.2.2.1]
  refine ⟨fun q => ?_, fun q => ?_⟩
  · rw [C.2.2.2.2 q]
    have e1 := zfsf_t (T := T) (N := N) (c := (zisNu T N p, p, 2)) (l := [(zrgn T N p most, p, 3)]) (decide_eq_true q)
    have bad : ¬ (1 ≤ znm T N p ∧ znm T N p ≤ most) → zclI w (d + 1) 20 [zR 33, zI 3] H1 (fun x6 H5 => (x6 = 0 → zCr T N [(zisNu T N p, p, 2), (zrgn T N p most, p, 3)] p H 0 H5) ∧ (¬ x6 = 0 → zCr T N [(zisNu T N p, p, 2), (zrgn T N p most, p, 3)] p H 1 H5)) := fun z => by
      rw [c20]
      exact ⟨fun _ => zCr_fail F C (by decide : (3 : Int) ≠ 0) (e1.trans (zfsf_f (decide_eq_false z))) (fun y => by omega) p, fun z => absurd rfl z⟩
    refine ⟨fun z => bad (by omega), fun z => ⟨fun y => ?_, fun y => bad (by omega)⟩⟩
    refine ⟨F, Or.inl ⟨rfl, ?_, C, f 33 9 (by omega), f 33 10 (by omega)⟩⟩
    rw [e1, zfsf_t (decide_eq_true ⟨z, y⟩)]; rfl
  · rw [c20]
    exact ⟨Or.inl rfl, zCr_fail F C (by decide) (zfsf_f (decide_eq_false q)) (fun _ => rfl) p⟩
theorem c36 {p : Nat} (hp : p ≤ N) (hT : zTx H T N) (h2 : H 33 2 = (N : Int)) (h3 : H 33 3 = (p : Int)) : ∃ x H', zCr T N [(zisLw T N p, p, 2)] p H x H' ∧ ∀ K : Int → zHt → Prop, zclI w (d + 6) 36 [zR 33] H K = K x H' := by
  obtain ⟨H1, ⟨f, C⟩, e⟩ := c15 (w := w) (d := d + 4) hp hT h2 h3
  have F : zf39 H H1 := zf39_33 (fun _ _ _ => rfl) f
  refine zclI_ex (x36_0 ?_)
  rw [e, C.2.2.1]
  refine ⟨fun q => ?_, fun q => ?_⟩
  · rw [c20]
    exact ⟨fun _ => zCr_fail F C (by decide) (zfsf_f (decide_eq_false (fun z => q z.1))) (fun _ => rfl) p, fun z => absurd rfl z⟩
  · have i := zkw_in (l := zwd T N p)
    rw [c32, C.2.2.2.1 q, zklaw_32 (zwd_let hp)]
    refine ⟨fun z => ?_, fun z => ?_⟩
    · refine ⟨F, Or.inl ⟨rfl, ?_, C, f 33 9 (by omega), f 33 10 (by omega)⟩⟩
      have y : 4 ≤ zkw (zwd T N p) := by
        unfold zklaw at z
        by_cases y : 4 ≤ zkw (zwd T N p)
        · exact y
        · rw [if_neg y] at z; exact absurd rfl z
      rw [zfsf_t (show zisLw T N p = true from decide_eq_true ⟨q, y⟩)]; rfl
    · rw [c20]
      refine ⟨fun _ => zCr_fail F C (by decide) (zfsf_f (decide_eq_false (fun y => ?_))) (fun _ => rfl) p, fun z => absurd rfl z⟩
      unfold zklaw at z
      rw [if_pos y.2] at z
      omega
/-- the names so far -/
def zNmC (H : zHt) (l : List (List Int)) : Prop := ∀ k : Nat, k < l.length → H 35 k = zcdw 32 (l.getD k [])
theorem c31l {L : List (Bool × Nat × Int)} {p : Nat} {H0 : zHt} {nm : List (List Int)} (hp : p ≤ N) (F : zf39 H0 H) (C : zCt H T N p) (h9 : H 33 9 = H0 33 9) (h10 : H 33 10 = H0 33 10) (hk : zkd T N p = 1) (hn : zNmC H nm) (h6 : nm.length ≤ 6) (hl : ∀ l ∈ nm, zlet l) (hL : zfsf T N L = zfsf T N [(decide (zwd T N p ∉ nm), p, 4)]) : ∀ (suf pre : List (List Int)), nm = pre ++ suf → zwd T N p ∉ pre → zgo w (d + 1) 31 42 [zR 33, zI (nm.length : Int), zI (pre.length : Int)] [] H (zQI (zCr T N L p H0)) := by
  intro suf
  induction suf with
  | nil =>
    intro pre hs hq
    rw [List.append_nil] at hs
    refine x31_42 ⟨fun _ => ⟨F, Or.inl ⟨rfl, ?_, C, h9, h10⟩⟩, fun q => by rw [hs] at q; omega⟩
    rw [hL, zfsf_t (decide_eq_true (by rw [hs]; exact hq))]; rfl
  | cons a suf ih =>
    intro pre hs hq
    have hlen : nm.length = pre.length + (suf.length + 1) := by rw [hs, List.length_append]; rfl
    have ha : nm.getD pre.length [] = a := by
      rw [hs, List.getD_eq_getElem?_getD, List.getElem?_append_right (Nat.le_refl _), Nat.sub_self]; rfl
    have ham : a ∈ nm := by rw [hs]; simp
    have he : (H 35 (pre.length : Int) = H 33 6) ↔ a = zwd T N p := by
      rw [hn pre.length (by omega), ha, C.2.2.2.1 hk]
      exact ⟨fun e => zcdw_inj (b := 32) (by omega) (hl a ham) (zwd_let hp) e, fun e => by rw [e]⟩
    refine x31_42 ⟨fun q => by omega, fun _ => ⟨fun q => by omega, fun _ => ⟨by omega, fun q => ?_, fun q => ?_⟩⟩⟩
    · rw [show w32 ((pre.length : Int) + 1) = ((pre ++ [a]).length : Int) by rw [w32_id (by omega), List.length_append]; simp]
      refine ih (pre ++ [a]) (by rw [hs, List.append_assoc]; rfl) (fun z => ?_)
      rcases List.mem_append.mp z with z | z
      · exact hq z
      · exact q (he.mpr (List.mem_singleton.mp z).symm)
    · have e := he.mp q
      rw [c20]
      refine ⟨Or.inl rfl, zCr_fail F C (by decide : (4 : Int) ≠ 0) (hL.trans (zfsf_f (decide_eq_false (fun z => z ?_)))) (fun y => by omega) p⟩
      rw [← e]; exact ham
theorem c31 {p : Nat} {nm : List (List Int)} (hp : p ≤ N) (hT : zTx H T N) (h2 : H 33 2 = (N : Int)) (h3 : H 33 3 = (p : Int)) (hn : zNmC H nm) (h6 : nm.length ≤ 6) (hl : ∀ l ∈ nm, zlet l) : ∃ x H', zCr T N [(zisNm T N p, p, 2), (decide (zwd T N p ∉ nm), p, 4)] p H x H' ∧ ∀ K : Int → zHt → Prop, zclI w (d + 6) 31 [zR 33, zI (nm.length : Int)] H K = K x H' := by
  obtain ⟨H1, ⟨f, C⟩, e⟩ := c15 (w := w) (d := d + 4) hp hT h2 h3
  have F : zf39 H H1 := zf39_33 (fun _ _ _ => rfl) f
  refine zclI_ex (x31_0 ?_)
  rw [e, C.2.2.1]
  refine ⟨fun q => ?_, fun q => ?_⟩
  · rw [c20]
    exact ⟨Or.inl rfl, zCr_fail F C (by decide) (zfsf_f (decide_eq_false (fun z => q z.1))) (fun _ => rfl) p⟩
  · have i := zkw_in (l := zwd T N p)
    rw [c21, C.2.2.2.1 q, zklin_32 (zwd_let hp)]
    have bad : zkw (zwd T N p) ≠ -1 → zclI w (d + 5) 20 [zR 33, zI 2] H1 (fun x H' => (x = 0 ∨ x = 1) ∧ zCr T N [(zisNm T N p, p, 2), (decide (zwd T N p ∉ nm), p, 4)] p H x H') := fun z => by
      rw [c20]
      exact ⟨Or.inl rfl, zCr_fail F C (by decide) (zfsf_f (decide_eq_false (fun y => z y.2))) (fun _ => rfl) p⟩
    refine ⟨fun z => bad (fun y => z ?_), fun z => ?_⟩
    · unfold zklin; rw [if_neg (by omega)]
    · rw [c32, zklaw_32 (zwd_let hp)]
      refine ⟨fun y => ?_, fun y => bad (fun x => y ?_)⟩
      · have hw : zkw (zwd T N p) = -1 := by
          unfold zklin at z
          unfold zklaw at y
          split at z
          · omega
          · split at y <;> omega
        exact c31l hp F C (f 33 9 (by omega)) (f 33 10 (by omega)) q (fun k hk => (f 35 k (by omega)).trans (hn k hk)) h6 hl (zfsf_t (decide_eq_true ⟨q, hw⟩)) nm [] rfl List.not_mem_nil
      · unfold zklaw; rw [if_neg (by omega)]
end Z74l
/-! the case load: the class's lines, its text -/
/-- how a LINE ends -/
def zClh (T : Nat → Int) (N : Nat) (s : zSta) (p : Nat) (H0 : zHt) (x : Int) (H' : zHt) : Prop := zfld H0 H' ∧ ((x = 1 ∧ (zln T N s p).1.1 = 0 ∧ H' 33 3 = ((zln T N s p).2.1 : Nat) ∧ zDeC H' 42 (zln T N s p).2.2.1 ∧ zNmC H' (zln T N s p).2.2.2 ∧ H' 33 9 = H0 33 9 ∧ H' 33 10 = H0 33 10) ∨ (x = 0 ∧ (zln T N s p).1.1 ≠ 0 ∧ H' 33 9 = (zln T N s p).1.1 ∧ H' 33 10 = (zln T N s p).1.2))
theorem zClh_bad {T : Nat → Int} {N p : Nat} {s : zSta} {H0 H' : zHt} {L L2 : List (Bool × Nat × Int)} (hF : zfld H0 H') (he : (zln T N s p).1 = zfsf T N L2) (h2 : zfsf T N L2 = zfsf T N L) (h0 : (zfsf T N L).1 ≠ 0) (h9 : H' 33 9 = (zfsf T N L).1) (h10 : H' 33 10 = (zfsf T N L).2) : zClh T N s p H0 0 H' :=
  ⟨hF, Or.inr ⟨rfl, by rw [he, h2]; exact h0, by rw [he, h2]; exact h9, by rw [he, h2]; exact h10⟩⟩
/-- a list of checks whose first ones fail, or hold -/
theorem zfsf_a {T : Nat → Int} {N : Nat} {m : List (Bool × Nat × Int)} : ∀ {l : List (Bool × Nat × Int)}, (∀ c ∈ l, c.2.2 ≠ 0) → zfsf T N (l ++ m) = if (zfsf T N l).1 = 0 then zfsf T N m else zfsf T N l
  | [], _ => (if_pos rfl).symm
  | a :: l, hk => by
    cases ha : a.1 with
    | false =>
      have h0 := hk a List.mem_cons_self
      have hne : ¬ (zfsf T N (a :: l)).1 = 0 := by
        rw [zfsf_f ha]
        show ¬ (if a.2.2 = 2 ∧ zkd T N a.2.1 = 4 then 1 else a.2.2) = (0 : Int)
        split
        · decide
        · exact h0
      rw [if_neg hne, List.cons_append, zfsf_f ha, zfsf_f ha]
    | true => rw [List.cons_append, zfsf_t ha, zfsf_t ha, zfsf_a (fun b hb => hk b (List.mem_cons_of_mem _ hb))]
theorem zDeC_42 {H : zHt} {D : List Int × Int × Int × Int} {n : Int} (hc : zDeC H 42 D) : zDeC (zup (zup H 43 D.1.length n) 42 1 ((D.1.length + 1 : Nat) : Int)) 42 (D.1 ++ [n], D.2) := by
  obtain ⟨c1, c2, c3, c4, c5⟩ := hc
  refine ⟨?_, ?_, ?_, ?_, ?_⟩
  · rw [zq_eq]; show _ = ((D.1 ++ [n]).length : Int); rw [List.length_append]; rfl
  · rw [zq_ne (by omega), zq_ne (by omega)]; exact c2
  · rw [zq_ne (by omega), zq_ne (by omega)]; exact c3
  · rw [zq_ne (by omega), zq_ne (by omega)]; exact c4
  · exact zArr_eq (H := zup H (42 + 1) D.1.length n) (fun k _ => by rw [zq_ne (by omega)]; rfl) (zArr_app c5)
theorem zDeC_f {H H' : zHt} {D : List Int × Int × Int × Int} (f : zf39 H H') (hc : zDeC H 42 D) : zDeC H' 42 D := zDeC_k (fun j => f 42 j (by omega)) (fun j => f (42 + 1) j (by omega)) hc
theorem zNmC_f {H H' : zHt} {l : List (List Int)} (f : zf39 H H') (hn : zNmC H l) : zNmC H' l := fun k hk => (f 35 k (by omega)).trans (hn k hk)
section Z74m
variable {w : zWt} {d : Nat} {H : zHt} {T : Nat → Int} {N : Nat}
theorem zCt_22 {p : Nat} {a j x : Int} (ha : a ≠ 33) (h : zCt H T N p) : zCt (zup H a j x) T N p := by
  obtain ⟨h1, h2, h3, h4, h5⟩ := h
  exact ⟨by rw [zq_ne (by omega)]; exact h1, by rw [zq_ne (by omega)]; exact h2, by rw [zq_ne (by omega)]; exact h3, fun z => by rw [zq_ne (by omega)]; exact h4 z, fun z => by rw [zq_ne (by omega)]; exact h5 z⟩
theorem c30 {p : Nat} {s : zSta} (hp : p ≤ N) (hs : zOkS s) (hT : zTx H T N) (h2 : H 33 2 = (N : Int)) (C : zCt H T N p) (hD : zDeC H 42 s.1) (hn : zNmC H s.2) (hk : zkd T N p = 1) (hw : zkw (zwd T N p) = 0) : ∃ x H', zClh T N s p H x H' ∧ ∀ K : Int → zHt → Prop, zclI w (d + 7) 30 [zR 33, zR 42] H K = K x H' := by
  have he : (zln T N s p).1 = zfsf T N (zlnR T N s p) := by unfold zln; rw [if_pos ⟨hk, hw⟩]
  have he2 : (zln T N s p).2 = (znx T N (znx T N (znx T N (znx T N p))), ((s.1.1 ++ [znm T N (znx T N (znx T N p))], s.1.2), s.2 ++ [zwd T N (znx T N p)])) := by unfold zln; rw [if_pos ⟨hk, hw⟩]
  have b1 := znx_b (T := T) hp
  have b2 := znx_b (T := T) b1.2.1
  have b3 := znx_b (T := T) b2.2.1
  have hc := hD.1
  have hs2 := hs.2.1
  refine zclI_ex (x30_0 (Or.inr (Or.inl rfl)) ?_)
  rw [hc]
  refine ⟨fun q => ?_, fun q => ?_⟩
  · have t1 : zfsf T N (zlnR T N s p) = zfsf T N [(zisNm T N (znx T N p), znx T N p, 2), (decide (zwd T N (znx T N p) ∉ s.2), znx T N p, 4), (zisNu T N (znx T N (znx T N p)), znx T N (znx T N p), 2), (zrgn T N (znx T N (znx T N p)) 999999999, znx T N (znx T N p), 3), (zisSg T N (znx T N (znx T N (znx T N p))), znx T N (znx T N (znx T N p)), 2)] := zfsf_t (decide_eq_true (by omega))
    have t2 := zfsf_a (T := T) (N := N) (m := [(zisNu T N (znx T N (znx T N p)), znx T N (znx T N p), 2), (zrgn T N (znx T N (znx T N p)) 999999999, znx T N (znx T N p), 3), (zisSg T N (znx T N (znx T N (znx T N p))), znx T N (znx T N (znx T N p)), 2)]) (l := [(zisNm T N (znx T N p), znx T N p, 2), (decide (zwd T N (znx T N p) ∉ s.2), znx T N p, 4)]) (by intro c hc; simp only [List.mem_cons, List.not_mem_nil, or_false] at hc; rcases hc with rfl | rfl <;> (first | exact (by decide : (2 : Int) ≠ 0) | exact (by decide : (3 : Int) ≠ 0) | exact (by decide : (4 : Int) ≠ 0) | exact (by decide : (5 : Int) ≠ 0) | exact (by decide : (0 : Int) < 2) | exact (by decide : (0 : Int) < 3) | exact (by decide : (0 : Int) < 4) | exact (by decide : (0 : Int) < 5)))
    have t3 := zfsf_a (T := T) (N := N) (m := [(zisSg T N (znx T N (znx T N (znx T N p))), znx T N (znx T N (znx T N p)), 2)]) (l := [(zisNu T N (znx T N (znx T N p)), znx T N (znx T N p), 2), (zrgn T N (znx T N (znx T N p)) 999999999, znx T N (znx T N p), 3)]) (by intro c hc; simp only [List.mem_cons, List.not_mem_nil, or_false] at hc; rcases hc with rfl | rfl <;> (first | exact (by decide : (2 : Int) ≠ 0) | exact (by decide : (3 : Int) ≠ 0) | exact (by decide : (4 : Int) ≠ 0) | exact (by decide : (5 : Int) ≠ 0) | exact (by decide : (0 : Int) < 2) | exact (by decide : (0 : Int) < 3) | exact (by decide : (0 : Int) < 4) | exact (by decide : (0 : Int) < 5)))
    obtain ⟨x1, H1, ⟨f1, r1⟩, e1⟩ := c31 (w := w) (d := d) (H := H) (p := znx T N p) (nm := s.2) b1.2.1 hT h2 C.1 hn (by omega) hs.2.2
    rw [show ((s.1.1.length : Nat) : Int) = ((s.2.length : Nat) : Int) by omega, e1]
    rcases r1 with ⟨rfl, y1, C1, g9, g10⟩ | ⟨rfl, y1, g9, g10⟩
    · refine ⟨fun _ => ⟨by omega, ?_⟩, fun z => absurd z (by decide)⟩
      rw [if_pos y1] at t2
      have hk1 : zkd T N (znx T N p) = 1 := by
        have := zfsf_0 (by intro c hc; simp only [List.mem_cons, List.not_mem_nil, or_false] at hc; rcases hc with rfl | rfl <;> (first | exact (by decide : (2 : Int) ≠ 0) | exact (by decide : (3 : Int) ≠ 0) | exact (by decide : (4 : Int) ≠ 0) | exact (by decide : (5 : Int) ≠ 0) | exact (by decide : (0 : Int) < 2) | exact (by decide : (0 : Int) < 3) | exact (by decide : (0 : Int) < 4) | exact (by decide : (0 : Int) < 5))) y1 (zisNm T N (znx T N p), znx T N p, 2) (by simp)
        exact (of_decide_eq_true this).1
      rw [C1.2.2.2.1 hk1]
      have F1 : zfld H (zup H1 35 ((s.2.length : Nat) : Int) (zcdw 32 (zwd T N (znx T N p)))) := zfld_up (by omega) (zfld_39 zfld_rfl f1)
      have hT1 := zTx_cl F1 hT
      have h21 : zup H1 35 ((s.2.length : Nat) : Int) (zcdw 32 (zwd T N (znx T N p))) 33 2 = (N : Int) := (F1 33 2 (by omega) (by omega) (by omega) (by omega)).trans h2
      have C1' := zCt_22 (a := 35) (j := ((s.2.length : Nat) : Int)) (x := zcdw 32 (zwd T N (znx T N p))) (by omega) C1
      have n1 : zNmC (zup H1 35 ((s.2.length : Nat) : Int) (zcdw 32 (zwd T N (znx T N p)))) (s.2 ++ [zwd T N (znx T N p)]) := fun k hk2 => by
        rw [List.length_append] at hk2
        have hk2 : k < s.2.length + 1 := hk2
        by_cases z : k = s.2.length
        · subst z
          rw [zq_eq, List.getD_eq_getElem?_getD, List.getElem?_append_right (Nat.le_refl _), Nat.sub_self]; rfl
        · rw [zq_ne (by omega), zNmC_f f1 hn k (by omega), List.getD_eq_getElem?_getD, List.getD_eq_getElem?_getD, List.getElem?_append_left (by omega)]
      have D1 : zDeC (zup H1 35 ((s.2.length : Nat) : Int) (zcdw 32 (zwd T N (znx T N p)))) 42 s.1 := zDeC_k (fun j => zq_ne (by omega)) (fun j => zq_ne (by omega)) (zDeC_f f1 hD)
      have g9' : zup H1 35 ((s.2.length : Nat) : Int) (zcdw 32 (zwd T N (znx T N p))) 33 9 = H 33 9 := by rw [zq_ne (by omega)]; exact g9
      have g10' : zup H1 35 ((s.2.length : Nat) : Int) (zcdw 32 (zwd T N (znx T N p))) 33 10 = H 33 10 := by rw [zq_ne (by omega)]; exact g10
      generalize zup H1 35 ((s.2.length : Nat) : Int) (zcdw 32 (zwd T N (znx T N p))) = H1b at F1 hT1 h21 C1' n1 D1 g9' g10' ⊢
      obtain ⟨x2, H2, ⟨f2, r2⟩, e2⟩ := c33 (w := w) (d := d + 4) (H := H1b) (p := znx T N (znx T N p)) (most := 999999999) b2.2.1 hT1 h21 C1'.1
      rw [e2]
      rcases r2 with ⟨rfl, y2, C2, k9, k10⟩ | ⟨rfl, y2, k9, k10⟩
      · refine ⟨fun _ => ?_, fun z => absurd z (by decide)⟩
        rw [if_pos y2] at t3
        have hk2 : zkd T N (znx T N (znx T N p)) = 2 := by
          have := zfsf_0 (by intro c hc; simp only [List.mem_cons, List.not_mem_nil, or_false] at hc; rcases hc with rfl | rfl <;> (first | exact (by decide : (2 : Int) ≠ 0) | exact (by decide : (3 : Int) ≠ 0) | exact (by decide : (4 : Int) ≠ 0) | exact (by decide : (5 : Int) ≠ 0) | exact (by decide : (0 : Int) < 2) | exact (by decide : (0 : Int) < 3) | exact (by decide : (0 : Int) < 4) | exact (by decide : (0 : Int) < 5))) y2 (zisNu T N (znx T N (znx T N p)), znx T N (znx T N p), 2) (by simp)
          exact of_decide_eq_true this
        have D2 := zDeC_f f2 D1
        have n2 := zNmC_f f2 n1
        rw [C2.2.2.2.2 hk2]
        refine x34_0 (Or.inr (Or.inl rfl)) ⟨fun z => by rw [D2.1] at z; omega, fun _ => ?_⟩
        rw [D2.1]
        refine ⟨by omega, ?_⟩
        rw [show (42 : Int) + 1 = 43 from rfl, show zup H2 43 ((s.1.1.length : Nat) : Int) (znm T N (znx T N (znx T N p))) 42 1 = ((s.1.1.length : Nat) : Int) by rw [zq_ne (by omega)]; exact D2.1, zi1 (by omega)]
        have D3 := zDeC_42 (n := znm T N (znx T N (znx T N p))) D2
        have F3 : zfld H (zup (zup H2 43 ((s.1.1.length : Nat) : Int) (znm T N (znx T N (znx T N p)))) 42 1 ((s.1.1.length + 1 : Nat) : Int)) := zfld_up (by omega) (zfld_up (by omega) (zfld_39 F1 f2))
        have C3 : zCt (zup (zup H2 43 ((s.1.1.length : Nat) : Int) (znm T N (znx T N (znx T N p)))) 42 1 ((s.1.1.length + 1 : Nat) : Int)) T N (znx T N (znx T N p)) := zCt_22 (by omega) (zCt_22 (by omega) C2)
        have n3 : zNmC (zup (zup H2 43 ((s.1.1.length : Nat) : Int) (znm T N (znx T N (znx T N p)))) 42 1 ((s.1.1.length + 1 : Nat) : Int)) (s.2 ++ [zwd T N (znx T N p)]) := fun k hk3 => by rw [zq_ne (by omega), zq_ne (by omega)]; exact n2 k hk3
        have m9 : zup (zup H2 43 ((s.1.1.length : Nat) : Int) (znm T N (znx T N (znx T N p)))) 42 1 ((s.1.1.length + 1 : Nat) : Int) 33 9 = H 33 9 := by rw [zq_ne (by omega), zq_ne (by omega), k9]; exact g9'
        have m10 : zup (zup H2 43 ((s.1.1.length : Nat) : Int) (znm T N (znx T N (znx T N p)))) 42 1 ((s.1.1.length + 1 : Nat) : Int) 33 10 = H 33 10 := by rw [zq_ne (by omega), zq_ne (by omega), k10]; exact g10'
        generalize zup (zup H2 43 ((s.1.1.length : Nat) : Int) (znm T N (znx T N (znx T N p)))) 42 1 ((s.1.1.length + 1 : Nat) : Int) = H3 at D3 F3 C3 n3 m9 m10 ⊢
        have hT3 := zTx_cl F3 hT
        have h23 : H3 33 2 = (N : Int) := (F3 33 2 (by omega) (by omega) (by omega) (by omega)).trans h2
        obtain ⟨x4, H4, ⟨f4, r4⟩, e4⟩ := c35 (w := w) (d := d + 4) (H := H3) (p := znx T N (znx T N (znx T N p))) b3.2.1 hT3 h23 C3.1
        rw [e4]
        rcases r4 with ⟨rfl, y4, C4, j9, j10⟩ | ⟨rfl, y4, j9, j10⟩
        · refine ⟨Or.inr rfl, zfld_39 F3 f4, Or.inl ⟨rfl, ?_, ?_, ?_, ?_, j9.trans m9, j10.trans m10⟩⟩
          · rw [he, t1]
            exact (congrArg Prod.fst (t2.trans t3)).trans y4
          · rw [he2]; exact C4.1
          · rw [he2]; exact zDeC_f f4 D3
          · rw [he2]; exact zNmC_f f4 n3
        · exact ⟨Or.inl rfl, zClh_bad (zfld_39 F3 f4) he (t1.trans (t2.trans t3)) y4 j9 j10⟩
      · refine ⟨fun z => absurd rfl z, fun _ => ?_⟩
        rw [if_neg y2] at t3
        exact zClh_bad (zfld_39 F1 f2) he (t1.trans (t2.trans t3)) y2 k9 k10
    · refine ⟨fun z => absurd rfl z, fun _ => ?_⟩
      rw [if_neg y1] at t2
      exact zClh_bad (zfld_39 zfld_rfl f1) he (t1.trans t2) y1 g9 g10
  · rw [c20]
    have R := zCr_fail (H0 := H) (L := zlnR T N s p) (fun _ _ _ => rfl) C (by decide : (5 : Int) ≠ 0) (zfsf_f (decide_eq_false (by omega))) (fun y => by omega) p
    obtain ⟨rf, rr⟩ := R
    rcases rr with ⟨z, _⟩ | ⟨_, y, k9, k10⟩
    · exact absurd z (by decide)
    · exact ⟨Or.inl rfl, zClh_bad (zfld_39 zfld_rfl rf) he rfl y k9 k10⟩
/-- bound, steps: a number, then the sign -/
theorem c19n {p : Nat} {s : zSta} {most j : Int} (hj : j = 2 ∨ j = 3) (hp : p ≤ N) (hs : zOkS s) (hT : zTx H T N) (h2 : H 33 2 = (N : Int)) (C : zCt H T N p) (hD : zDeC H 42 s.1) (hn : zNmC H s.2) (hw : zln T N s p = (zfsf T N (zlnB T N p most), znx T N (znx T N (znx T N p)), (if j = 2 then (s.1.1, znm T N (znx T N p), s.1.2.2) else (s.1.1, s.1.2.1, znm T N (znx T N p), s.1.2.2.2), s.2))) : zclI w (d + 2) 33 [zR 33, zI most] H (fun x11 H10 => (x11 = 0 → zClh T N s p H 0 (zup H10 42 j (H10 33 7))) ∧ (¬ x11 = 0 → zclI w (d + 2) 35 [zR 33] (zup H10 42 j (H10 33 7)) (fun x14 H13 => (x14 = 0 → zClh T N s p H 0 H13) ∧ (¬ x14 = 0 → zClh T N s p H 1 H13)))) := by
  have b1 := znx_b (T := T) hp
  have b2 := znx_b (T := T) b1.2.1
  have he : (zln T N s p).1 = zfsf T N (zlnB T N p most) := by rw [hw]
  have t2 : zfsf T N (zlnB T N p most) = if (zfsf T N [(zisNu T N (znx T N p), znx T N p, 2), (zrgn T N (znx T N p) most, znx T N p, 3)]).1 = 0 then zfsf T N [(zisSg T N (znx T N (znx T N p)), znx T N (znx T N p), 2)] else zfsf T N [(zisNu T N (znx T N p), znx T N p, 2), (zrgn T N (znx T N p) most, znx T N p, 3)] := zfsf_a (T := T) (N := N) (m := [(zisSg T N (znx T N (znx T N p)), znx T N (znx T N p), 2)]) (l := [(zisNu T N (znx T N p), znx T N p, 2), (zrgn T N (znx T N p) most, znx T N p, 3)]) (by intro c hc; simp only [List.mem_cons, List.not_mem_nil, or_false] at hc; rcases hc with rfl | rfl <;> (first | exact (by decide : (2 : Int) ≠ 0) | exact (by decide : (3 : Int) ≠ 0) | exact (by decide : (4 : Int) ≠ 0) | exact (by decide : (5 : Int) ≠ 0) | exact (by decide : (0 : Int) < 2) | exact (by decide : (0 : Int) < 3) | exact (by decide : (0 : Int) < 4) | exact (by decide : (0 : Int) < 5)))
  obtain ⟨x1, H1, ⟨f1, r1⟩, e1⟩ := c33 (w := w) (d := d) (H := H) (p := znx T N p) (most := most) b1.2.1 hT h2 C.1
  rw [e1]
  have F1 : zfld H (zup H1 42 j (H1 33 7)) := zfld_up (by omega) (zfld_39 zfld_rfl f1)
  rcases r1 with ⟨rfl, y1, C1, g9, g10⟩ | ⟨rfl, y1, g9, g10⟩
  · refine ⟨fun z => absurd z (by decide), fun _ => ?_⟩
    rw [if_pos y1] at t2
    have hk1 : zkd T N (znx T N p) = 2 := by
      have := zfsf_0 (by intro c hc; simp only [List.mem_cons, List.not_mem_nil, or_false] at hc; rcases hc with rfl | rfl <;> (first | exact (by decide : (2 : Int) ≠ 0) | exact (by decide : (3 : Int) ≠ 0) | exact (by decide : (4 : Int) ≠ 0) | exact (by decide : (5 : Int) ≠ 0) | exact (by decide : (0 : Int) < 2) | exact (by decide : (0 : Int) < 3) | exact (by decide : (0 : Int) < 4) | exact (by decide : (0 : Int) < 5))) y1 (zisNu T N (znx T N p), znx T N p, 2) (by simp)
      exact of_decide_eq_true this
    rw [C1.2.2.2.2 hk1] at F1 ⊢
    have hT1 := zTx_cl F1 hT
    have h21 : zup H1 42 j (znm T N (znx T N p)) 33 2 = (N : Int) := (F1 33 2 (by omega) (by omega) (by omega) (by omega)).trans h2
    have C1' := zCt_22 (a := 42) (j := j) (x := znm T N (znx T N p)) (by omega) C1
    have n1 : zNmC (zup H1 42 j (znm T N (znx T N p))) s.2 := fun k hk => by rw [zq_ne (by omega)]; exact zNmC_f f1 hn k hk
    have D0 := zDeC_f f1 hD
    have D1 : zDeC (zup H1 42 j (znm T N (znx T N p))) 42 (if j = 2 then (s.1.1, znm T N (znx T N p), s.1.2.2) else (s.1.1, s.1.2.1, znm T N (znx T N p), s.1.2.2.2)) := by
      obtain ⟨d1, d2, d3, d4, d5⟩ := D0
      rcases hj with rfl | rfl
      · rw [if_pos rfl]
        exact ⟨by rw [zq_ne (by omega)]; exact d1, zq_eq, by rw [zq_ne (by omega)]; exact d3, by rw [zq_ne (by omega)]; exact d4, zArr_eq (fun k _ => zq_ne (by omega)) d5⟩
      · rw [if_neg (by decide)]
        exact ⟨by rw [zq_ne (by omega)]; exact d1, by rw [zq_ne (by omega)]; exact d2, zq_eq, by rw [zq_ne (by omega)]; exact d4, zArr_eq (fun k _ => zq_ne (by omega)) d5⟩
    have g9' : zup H1 42 j (znm T N (znx T N p)) 33 9 = H 33 9 := by rw [zq_ne (by omega)]; exact g9
    have g10' : zup H1 42 j (znm T N (znx T N p)) 33 10 = H 33 10 := by rw [zq_ne (by omega)]; exact g10
    generalize zup H1 42 j (znm T N (znx T N p)) = H1b at F1 hT1 h21 C1' n1 D1 g9' g10' ⊢
    obtain ⟨x4, H4, ⟨f4, r4⟩, e4⟩ := c35 (w := w) (d := d) (H := H1b) (p := znx T N (znx T N p)) b2.2.1 hT1 h21 C1'.1
    rw [e4]
    rcases r4 with ⟨rfl, y4, C4, j9, j10⟩ | ⟨rfl, y4, j9, j10⟩
    · refine ⟨fun z => absurd z (by decide), fun _ => ⟨zfld_39 F1 f4, Or.inl ⟨rfl, ?_, ?_, ?_, ?_, j9.trans g9', j10.trans g10'⟩⟩⟩
      · rw [he]
        exact (congrArg Prod.fst t2).trans y4
      · rw [hw]; exact C4.1
      · rw [hw]; exact zDeC_f f4 D1
      · rw [hw]; exact zNmC_f f4 n1
    · exact ⟨fun _ => zClh_bad (zfld_39 F1 f4) he t2 y4 j9 j10, fun z => absurd rfl z⟩
  · refine ⟨fun _ => ?_, fun z => absurd rfl z⟩
    rw [if_neg y1] at t2
    exact zClh_bad F1 he t2 y1 (by rw [zq_ne (by omega)]; exact g9) (by rw [zq_ne (by omega)]; exact g10)
theorem c19 {p : Nat} {s : zSta} (hp : p ≤ N) (hs : zOkS s) (hT : zTx H T N) (h2 : H 33 2 = (N : Int)) (C : zCt H T N p) (hD : zDeC H 42 s.1) (hn : zNmC H s.2) : ∃ x H', zClh T N s p H x H' ∧ ∀ K : Int → zHt → Prop, zclI w (d + 8) 19 [zR 33, zR 42] H K = K x H' := by
  have b1 := znx_b (T := T) hp
  have b2 := znx_b (T := T) b1.2.1
  have bad : (¬ (zkd T N p = 1 ∧ (0 ≤ zkw (zwd T N p) ∧ zkw (zwd T N p) ≤ 3))) → zclI w (d + 7) 20 [zR 33, zI 2] H (fun x5 H4 => (x5 = 0 ∨ x5 = 1) ∧ zClh T N s p H x5 H4) := fun z => by
    have he : (zln T N s p).1 = zfsf T N [(false, p, 2)] := by
      unfold zln
      rw [if_neg (by omega), if_neg (by omega), if_neg (by omega), if_neg (by omega)]
    have R := zCr_fail (H0 := H) (L := [(false, p, 2)]) (fun _ _ _ => rfl) C (by decide : (2 : Int) ≠ 0) (zfsf_f rfl) (fun y => rfl) p
    rw [c20]
    obtain ⟨rf, rr⟩ := R
    rcases rr with ⟨z, _⟩ | ⟨_, y, k9, k10⟩
    · exact absurd z (by decide)
    · exact ⟨Or.inl rfl, zClh_bad (zfld_39 zfld_rfl rf) he rfl y k9 k10⟩
  refine zclI_ex (x19_0 (Or.inr (Or.inl rfl)) ?_)
  rw [C.2.2.1]
  refine ⟨fun q => ?_, fun q => bad (fun z => q z.1)⟩
  have i := zkw_in (l := zwd T N p)
  rw [c21, C.2.2.2.1 q, zklin_32 (zwd_let hp)]
  have el : zklin (zwd T N p) = if 0 ≤ zkw (zwd T N p) ∧ zkw (zwd T N p) ≤ 3 then zkw (zwd T N p) else -1 := rfl
  refine ⟨fun z => bad (fun y => ?_), fun z => ?_, fun z => ?_, fun z => ?_, fun z => ?_⟩
  · rw [el, if_pos y.2] at z; omega
  · have hw : zkw (zwd T N p) = 0 := by rw [el] at z; split at z <;> omega
    obtain ⟨x, H1, r, e⟩ := c30 (w := w) (d := d) hp hs hT h2 C hD hn q hw
    rw [e]
    refine ⟨?_, r⟩
    rcases r.2 with ⟨y, _⟩ | ⟨y, _⟩
    · exact Or.inr y
    · exact Or.inl y
  · have hw : zkw (zwd T N p) = 1 := by rw [el] at z; split at z <;> omega
    exact c19n (w := w) (d := d + 5) (s := s) (j := 2) (Or.inl rfl) hp hs hT h2 C hD hn (by unfold zln; rw [if_neg (by omega), if_pos ⟨q, hw⟩, if_pos rfl])
  · have hw : zkw (zwd T N p) = 2 := by rw [el] at z; split at z <;> omega
    exact c19n (w := w) (d := d + 5) (s := s) (j := 3) (Or.inr rfl) hp hs hT h2 C hD hn (by unfold zln; rw [if_neg (by omega), if_neg (by omega), if_pos ⟨q, hw⟩, if_neg (by decide)])
  · have hw : zkw (zwd T N p) = 3 := by rw [el] at z; split at z <;> omega
    have hln : zln T N s p = (zfsf T N (zlnL T N p), znx T N (znx T N (znx T N p)), ((s.1.1, s.1.2.1, s.1.2.2.1, zkw (zwd T N (znx T N p)) - 4), s.2)) := by
      unfold zln; rw [if_neg (by omega), if_neg (by omega), if_neg (by omega), if_pos ⟨q, hw⟩]
    have he : (zln T N s p).1 = zfsf T N (zlnL T N p) := by rw [hln]
    have t2 : zfsf T N (zlnL T N p) = if (zfsf T N [(zisLw T N (znx T N p), znx T N p, 2)]).1 = 0 then zfsf T N [(zisSg T N (znx T N (znx T N p)), znx T N (znx T N p), 2)] else zfsf T N [(zisLw T N (znx T N p), znx T N p, 2)] := zfsf_a (T := T) (N := N) (m := [(zisSg T N (znx T N (znx T N p)), znx T N (znx T N p), 2)]) (l := [(zisLw T N (znx T N p), znx T N p, 2)]) (by intro c hc; simp only [List.mem_cons, List.not_mem_nil, or_false] at hc; subst hc; (first | exact (by decide : (2 : Int) ≠ 0) | exact (by decide : (3 : Int) ≠ 0) | exact (by decide : (4 : Int) ≠ 0) | exact (by decide : (5 : Int) ≠ 0) | exact (by decide : (0 : Int) < 2) | exact (by decide : (0 : Int) < 3) | exact (by decide : (0 : Int) < 4) | exact (by decide : (0 : Int) < 5)))
    obtain ⟨x1, H1, ⟨f1, r1⟩, e1⟩ := c36 (w := w) (d := d + 1) (H := H) (p := znx T N p) b1.2.1 hT h2 C.1
    rw [e1, c32]
    rcases r1 with ⟨rfl, y1, C1, g9, g10⟩ | ⟨rfl, y1, g9, g10⟩
    · refine ⟨fun y => absurd y (by decide), fun _ => ?_⟩
      rw [if_pos y1] at t2
      have hk1 := of_decide_eq_true (zfsf_0 (by intro c hc; simp only [List.mem_cons, List.not_mem_nil, or_false] at hc; subst hc; (first | exact (by decide : (2 : Int) ≠ 0) | exact (by decide : (3 : Int) ≠ 0) | exact (by decide : (4 : Int) ≠ 0) | exact (by decide : (5 : Int) ≠ 0) | exact (by decide : (0 : Int) < 2) | exact (by decide : (0 : Int) < 3) | exact (by decide : (0 : Int) < 4) | exact (by decide : (0 : Int) < 5))) y1 (zisLw T N (znx T N p), znx T N p, 2) (by simp))
      rw [C1.2.2.2.1 hk1.1, zklaw_32 (zwd_let b1.2.1), show zklaw (zwd T N (znx T N p)) = zkw (zwd T N (znx T N p)) - 4 from if_pos hk1.2]
      have F1 : zfld H (zup H1 42 4 (zkw (zwd T N (znx T N p)) - 4)) := zfld_up (by omega) (zfld_39 zfld_rfl f1)
      have hT1 := zTx_cl F1 hT
      have h21 : zup H1 42 4 (zkw (zwd T N (znx T N p)) - 4) 33 2 = (N : Int) := (F1 33 2 (by omega) (by omega) (by omega) (by omega)).trans h2
      have C1' := zCt_22 (a := 42) (j := 4) (x := zkw (zwd T N (znx T N p)) - 4) (by omega) C1
      have n1 : zNmC (zup H1 42 4 (zkw (zwd T N (znx T N p)) - 4)) s.2 := fun k hk => by rw [zq_ne (by omega)]; exact zNmC_f f1 hn k hk
      have D0 := zDeC_f f1 hD
      have D1 : zDeC (zup H1 42 4 (zkw (zwd T N (znx T N p)) - 4)) 42 (s.1.1, s.1.2.1, s.1.2.2.1, zkw (zwd T N (znx T N p)) - 4) := by
        obtain ⟨d1, d2, d3, d4, d5⟩ := D0
        exact ⟨by rw [zq_ne (by omega)]; exact d1, by rw [zq_ne (by omega)]; exact d2, by rw [zq_ne (by omega)]; exact d3, zq_eq, zArr_eq (fun k _ => zq_ne (by omega)) d5⟩
      have g9' : zup H1 42 4 (zkw (zwd T N (znx T N p)) - 4) 33 9 = H 33 9 := by rw [zq_ne (by omega)]; exact g9
      have g10' : zup H1 42 4 (zkw (zwd T N (znx T N p)) - 4) 33 10 = H 33 10 := by rw [zq_ne (by omega)]; exact g10
      generalize zup H1 42 4 (zkw (zwd T N (znx T N p)) - 4) = H1b at F1 hT1 h21 C1' n1 D1 g9' g10' ⊢
      obtain ⟨x4, H4, ⟨f4, r4⟩, e4⟩ := c35 (w := w) (d := d + 5) (H := H1b) (p := znx T N (znx T N p)) b2.2.1 hT1 h21 C1'.1
      rw [e4]
      rcases r4 with ⟨rfl, y4, C4, j9, j10⟩ | ⟨rfl, y4, j9, j10⟩
      · refine ⟨fun y => absurd y (by decide), fun _ => ⟨zfld_39 F1 f4, Or.inl ⟨rfl, ?_, ?_, ?_, ?_, j9.trans g9', j10.trans g10'⟩⟩⟩
        · rw [he]
          exact (congrArg Prod.fst t2).trans y4
        · rw [hln]; exact C4.1
        · rw [hln]; exact zDeC_f f4 D1
        · rw [hln]; exact zNmC_f f4 n1
      · exact ⟨fun _ => zClh_bad (zfld_39 F1 f4) he t2 y4 j9 j10, fun y => absurd rfl y⟩
    · refine ⟨fun _ => ?_, fun y => absurd rfl y⟩
      rw [if_neg y1] at t2
      exact zClh_bad (zfld_up (by omega) (zfld_39 zfld_rfl f1)) he t2 y1 (by rw [zq_ne (by omega)]; exact g9) (by rw [zq_ne (by omega)]; exact g10)
/-- how the text ends -/
def zCp (r : (Int × Int) × zSta) (H0 : zHt) (x : Int) (H' : zHt) : Prop := zfld H0 H' ∧ ((x = 1 ∧ r.1.1 = 0 ∧ zDeC H' 42 r.2.1 ∧ H' 33 9 = H0 33 9 ∧ H' 33 10 = H0 33 10) ∨ (x = 0 ∧ r.1.1 ≠ 0 ∧ H' 33 9 = r.1.1 ∧ H' 33 10 = r.1.2))
theorem c14l {H0 : zHt} {r : (Int × Int) × zSta} : ∀ (F l p : Nat) (s : zSta) (H : zHt), F + l = N + 1 → p ≤ N → zOkS s → zTx H T N → H 33 2 = (N : Int) → H 33 3 = (p : Int) → zDeC H 42 s.1 → zNmC H s.2 → zfld H0 H → H 33 9 = H0 33 9 → H 33 10 = H0 33 10 → zps T N F s p = r → zgo w (d + 9) 14 38 [zR 33, zJ, zR 42, zI (l : Int)] [] H (zQI (zCp r H0)) := by
  intro F
  induction F with
  | zero =>
    intro l p s H hl hp hs hT h2 h3 hD hn hf h9 h10 hr
    refine x14_38 (Or.inr (Or.inl rfl)) ⟨fun _ => ⟨hf, Or.inl ⟨rfl, ?_, ?_, h9, h10⟩⟩, fun q => by rw [h2] at q; omega⟩
    · rw [← hr]; rfl
    · rw [← hr]; exact hD
  | succ F ih =>
    intro l p s H hl hp hs hT h2 h3 hD hn hf h9 h10 hr
    have h40 := hT.1
    obtain ⟨H1, ⟨f1, C1⟩, e1⟩ := c15 (w := w) (d := d + 7) hp hT h2 h3
    have g1 : zf39 H H1 := zf39_33 (fun _ _ _ => rfl) f1
    refine x14_38 (Or.inr (Or.inl rfl)) ⟨fun q => by rw [h2] at q; omega, fun _ => ?_⟩
    rw [e1, C1.2.2.1]
    have hr : (if zkd T N p = 0 then ((0, 0), s) else if (zln T N s p).1.1 = 0 then zps T N F (zln T N s p).2.2 (zln T N s p).2.1 else ((zln T N s p).1, s)) = r := hr
    refine ⟨fun q => ?_, fun q => ?_⟩
    · rw [if_neg q] at hr
      obtain ⟨x, H2, ⟨f2, r2⟩, e2⟩ := c19 (w := w) (d := d) (H := H1) (s := s) hp hs (zTx_39 g1 hT) ((f1 33 2 (by omega)).trans h2) C1 (zDeC_f g1 hD) (zNmC_f g1 hn)
      rw [e2]
      have hf2 : zfld H0 H2 := zfld_tr (zfld_39 hf g1) f2
      rcases r2 with ⟨rfl, y, k3, kD, kn, k9, k10⟩ | ⟨rfl, y, k9, k10⟩
      · refine ⟨fun _ => ?_, fun z => absurd z (by decide)⟩
        rw [if_pos y] at hr
        obtain ⟨o1, o2, o3⟩ := zln_ok hp hs y
        rw [zi1 (by omega)]
        exact ih (l + 1) (zln T N s p).2.1 (zln T N s p).2.2 H2 (by omega) o2 o1 (zTx_cl f2 (zTx_39 g1 hT)) ((f2 33 2 (by omega) (by omega) (by omega) (by omega)).trans ((f1 33 2 (by omega)).trans h2)) k3 kD kn hf2 (k9.trans ((f1 33 9 (by omega)).trans h9)) (k10.trans ((f1 33 10 (by omega)).trans h10)) hr
      · refine ⟨fun z => absurd rfl z, fun _ => ?_⟩
        rw [if_neg y] at hr
        exact ⟨hf2, Or.inr ⟨rfl, by rw [← hr]; exact y, by rw [← hr]; exact k9, by rw [← hr]; exact k10⟩⟩
    · rw [if_pos q] at hr
      exact ⟨zfld_39 hf g1, Or.inl ⟨rfl, by rw [← hr], by rw [← hr]; exact zDeC_f g1 hD, (f1 33 9 (by omega)).trans h9, (f1 33 10 (by omega)).trans h10⟩⟩
end Z74m
