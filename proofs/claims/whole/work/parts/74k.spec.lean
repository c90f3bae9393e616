/-! the case load: its words, lines and text, told once; and the class -/
def zW0 : List Int := [23, 15, 18]
def zW1 : List Int := [4, 14, 21, 15, 2]
def zW2 : List Int := [19, 16, 5, 20, 19]
def zW3 : List Int := [23, 1, 12]
def zW4 : List Int := [14, 9, 1, 12, 16]
def zW5 : List Int := [25, 18, 1, 20, 9, 14, 21]
def zW6 : List Int := [4, 5, 3, 21, 4, 5, 18]
def zW7 : List Int := [5, 18, 1, 2]
/-- which word of the language a WORD is, or -1 -/
def zkw (l : List Int) : Int := if l = zW0 then 0 else if l = zW1 then 1 else if l = zW2 then 2 else if l = zW3 then 3 else if l = zW4 then 4 else if l = zW5 then 5 else if l = zW6 then 6 else if l = zW7 then 7 else -1
def zlet (l : List Int) : Prop := ∀ x ∈ l, 1 ≤ x ∧ x ≤ 26
theorem zW0_l : zlet zW0 := by unfold zlet zW0; decide
theorem zW0_32 {l : List Int} (h : zlet l) : zcdw 32 l = 18935 ↔ l = zW0 := ⟨fun e => zcdw_inj (b := 32) (by omega) h zW0_l (e.trans (show 18935 = zcdw 32 zW0 by decide +kernel)), fun e => by rw [e]; decide +kernel⟩
theorem zW0_27 {l : List Int} (h : zlet l) : zcdw 27 l = 13550 ↔ l = zW0 := ⟨fun e => zcdw_inj (b := 27) (by omega) h zW0_l (e.trans (show 13550 = zcdw 27 zW0 by decide +kernel)), fun e => by rw [e]; decide +kernel⟩
theorem zW1_l : zlet zW1 := by unfold zlet zW1; decide
theorem zW1_32 {l : List Int} (h : zlet l) : zcdw 32 l = 2610628 ↔ l = zW1 := ⟨fun e => zcdw_inj (b := 32) (by omega) h zW1_l (e.trans (show 2610628 = zcdw 32 zW1 by decide +kernel)), fun e => by rw [e]; decide +kernel⟩
theorem zW1_27 {l : List Int} (h : zlet l) : zcdw 27 l = 1373818 ↔ l = zW1 := ⟨fun e => zcdw_inj (b := 27) (by omega) h zW1_l (e.trans (show 1373818 = zcdw 27 zW1 by decide +kernel)), fun e => by rw [e]; decide +kernel⟩
theorem zW2_l : zlet zW2 := by unfold zlet zW2; decide
theorem zW2_32 {l : List Int} (h : zlet l) : zcdw 32 l = 20583955 ↔ l = zW2 := ⟨fun e => zcdw_inj (b := 32) (by omega) h zW2_l (e.trans (show 20583955 = zcdw 32 zW2 by decide +kernel)), fun e => by rw [e]; decide +kernel⟩
theorem zW2_27 {l : List Int} (h : zlet l) : zcdw 27 l = 10495135 ↔ l = zW2 := ⟨fun e => zcdw_inj (b := 27) (by omega) h zW2_l (e.trans (show 10495135 = zcdw 27 zW2 by decide +kernel)), fun e => by rw [e]; decide +kernel⟩
theorem zW3_l : zlet zW3 := by unfold zlet zW3; decide
theorem zW3_32 {l : List Int} (h : zlet l) : zcdw 32 l = 12343 ↔ l = zW3 := ⟨fun e => zcdw_inj (b := 32) (by omega) h zW3_l (e.trans (show 12343 = zcdw 32 zW3 by decide +kernel)), fun e => by rw [e]; decide +kernel⟩
theorem zW3_27 {l : List Int} (h : zlet l) : zcdw 27 l = 8798 ↔ l = zW3 := ⟨fun e => zcdw_inj (b := 27) (by omega) h zW3_l (e.trans (show 8798 = zcdw 27 zW3 by decide +kernel)), fun e => by rw [e]; decide +kernel⟩
theorem zW4_l : zlet zW4 := by unfold zlet zW4; decide
theorem zW4_32 {l : List Int} (h : zlet l) : zcdw 32 l = 17171758 ↔ l = zW4 := ⟨fun e => zcdw_inj (b := 32) (by omega) h zW4_l (e.trans (show 17171758 = zcdw 32 zW4 by decide +kernel)), fun e => by rw [e]; decide +kernel⟩
theorem zW4_27 {l : List Int} (h : zlet l) : zcdw 27 l = 8740238 ↔ l = zW4 := ⟨fun e => zcdw_inj (b := 27) (by omega) h zW4_l (e.trans (show 8740238 = zcdw 27 zW4 by decide +kernel)), fun e => by rw [e]; decide +kernel⟩
theorem zW5_l : zlet zW5 := by unfold zlet zW5; decide
theorem zW5_32 {l : List Int} (h : zlet l) : zcdw 32 l = 23028434521 ↔ l = zW5 := ⟨fun e => zcdw_inj (b := 32) (by omega) h zW5_l (e.trans (show 23028434521 = zcdw 32 zW5 by decide +kernel)), fun e => by rw [e]; decide +kernel⟩
theorem zW5_27 {l : List Int} (h : zlet l) : zcdw 27 l = 8341892836 ↔ l = zW5 := ⟨fun e => zcdw_inj (b := 27) (by omega) h zW5_l (e.trans (show 8341892836 = zcdw 27 zW5 by decide +kernel)), fun e => by rw [e]; decide +kernel⟩
theorem zW6_l : zlet zW6 := by unfold zlet zW6; decide
theorem zW6_32 {l : List Int} (h : zlet l) : zcdw 32 l = 19500010660 ↔ l = zW6 := ⟨fun e => zcdw_inj (b := 32) (by omega) h zW6_l (e.trans (show 19500010660 = zcdw 32 zW6 by decide +kernel)), fun e => by rw [e]; decide +kernel⟩
theorem zW6_27 {l : List Int} (h : zlet l) : zcdw 27 l = 7047854770 ↔ l = zW6 := ⟨fun e => zcdw_inj (b := 27) (by omega) h zW6_l (e.trans (show 7047854770 = zcdw 27 zW6 by decide +kernel)), fun e => by rw [e]; decide +kernel⟩
theorem zW7_l : zlet zW7 := by unfold zlet zW7; decide
theorem zW7_32 {l : List Int} (h : zlet l) : zcdw 32 l = 67141 ↔ l = zW7 := ⟨fun e => zcdw_inj (b := 32) (by omega) h zW7_l (e.trans (show 67141 = zcdw 32 zW7 by decide +kernel)), fun e => by rw [e]; decide +kernel⟩
theorem zW7_27 {l : List Int} (h : zlet l) : zcdw 27 l = 40586 ↔ l = zW7 := ⟨fun e => zcdw_inj (b := 27) (by omega) h zW7_l (e.trans (show 40586 = zcdw 27 zW7 by decide +kernel)), fun e => by rw [e]; decide +kernel⟩
theorem zkw_0 {l : List Int} : zkw l = 0 ↔ l = zW0 := by
  refine ⟨fun h => ?_, fun h => by rw [h]; decide⟩
  unfold zkw at h
  by_cases y : l = zW0
  · exact y
  · exfalso
    rw [if_neg y] at h
    by_cases z1 : l = zW1
    · rw [if_pos z1] at h; exact absurd h (by decide)
    rw [if_neg z1] at h
    by_cases z2 : l = zW2
    · rw [if_pos z2] at h; exact absurd h (by decide)
    rw [if_neg z2] at h
    by_cases z3 : l = zW3
    · rw [if_pos z3] at h; exact absurd h (by decide)
    rw [if_neg z3] at h
    by_cases z4 : l = zW4
    · rw [if_pos z4] at h; exact absurd h (by decide)
    rw [if_neg z4] at h
    by_cases z5 : l = zW5
    · rw [if_pos z5] at h; exact absurd h (by decide)
    rw [if_neg z5] at h
    by_cases z6 : l = zW6
    · rw [if_pos z6] at h; exact absurd h (by decide)
    rw [if_neg z6] at h
    by_cases z7 : l = zW7
    · rw [if_pos z7] at h; exact absurd h (by decide)
    rw [if_neg z7] at h
    exact absurd h (by decide)
theorem zkw_1 {l : List Int} : zkw l = 1 ↔ l = zW1 := by
  refine ⟨fun h => ?_, fun h => by rw [h]; decide⟩
  unfold zkw at h
  by_cases y : l = zW1
  · exact y
  · exfalso
    by_cases z0 : l = zW0
    · rw [if_pos z0] at h; exact absurd h (by decide)
    rw [if_neg z0] at h
    rw [if_neg y] at h
    by_cases z2 : l = zW2
    · rw [if_pos z2] at h; exact absurd h (by decide)
    rw [if_neg z2] at h
    by_cases z3 : l = zW3
    · rw [if_pos z3] at h; exact absurd h (by decide)
    rw [if_neg z3] at h
    by_cases z4 : l = zW4
    · rw [if_pos z4] at h; exact absurd h (by decide)
    rw [if_neg z4] at h
    by_cases z5 : l = zW5
    · rw [if_pos z5] at h; exact absurd h (by decide)
    rw [if_neg z5] at h
    by_cases z6 : l = zW6
    · rw [if_pos z6] at h; exact absurd h (by decide)
    rw [if_neg z6] at h
    by_cases z7 : l = zW7
    · rw [if_pos z7] at h; exact absurd h (by decide)
    rw [if_neg z7] at h
    exact absurd h (by decide)
theorem zkw_2 {l : List Int} : zkw l = 2 ↔ l = zW2 := by
  refine ⟨fun h => ?_, fun h => by rw [h]; decide⟩
  unfold zkw at h
  by_cases y : l = zW2
  · exact y
  · exfalso
    by_cases z0 : l = zW0
    · rw [if_pos z0] at h; exact absurd h (by decide)
    rw [if_neg z0] at h
    by_cases z1 : l = zW1
    · rw [if_pos z1] at h; exact absurd h (by decide)
    rw [if_neg z1] at h
    rw [if_neg y] at h
    by_cases z3 : l = zW3
    · rw [if_pos z3] at h; exact absurd h (by decide)
    rw [if_neg z3] at h
    by_cases z4 : l = zW4
    · rw [if_pos z4] at h; exact absurd h (by decide)
    rw [if_neg z4] at h
    by_cases z5 : l = zW5
    · rw [if_pos z5] at h; exact absurd h (by decide)
    rw [if_neg z5] at h
    by_cases z6 : l = zW6
    · rw [if_pos z6] at h; exact absurd h (by decide)
    rw [if_neg z6] at h
    by_cases z7 : l = zW7
    · rw [if_pos z7] at h; exact absurd h (by decide)
    rw [if_neg z7] at h
    exact absurd h (by decide)
theorem zkw_3 {l : List Int} : zkw l = 3 ↔ l = zW3 := by
  refine ⟨fun h => ?_, fun h => by rw [h]; decide⟩
  unfold zkw at h
  by_cases y : l = zW3
  · exact y
  · exfalso
    by_cases z0 : l = zW0
    · rw [if_pos z0] at h; exact absurd h (by decide)
    rw [if_neg z0] at h
    by_cases z1 : l = zW1
    · rw [if_pos z1] at h; exact absurd h (by decide)
    rw [if_neg z1] at h
    by_cases z2 : l = zW2
    · rw [if_pos z2] at h; exact absurd h (by decide)
    rw [if_neg z2] at h
    rw [if_neg y] at h
    by_cases z4 : l = zW4
    · rw [if_pos z4] at h; exact absurd h (by decide)
    rw [if_neg z4] at h
    by_cases z5 : l = zW5
    · rw [if_pos z5] at h; exact absurd h (by decide)
    rw [if_neg z5] at h
    by_cases z6 : l = zW6
    · rw [if_pos z6] at h; exact absurd h (by decide)
    rw [if_neg z6] at h
    by_cases z7 : l = zW7
    · rw [if_pos z7] at h; exact absurd h (by decide)
    rw [if_neg z7] at h
    exact absurd h (by decide)
theorem zkw_4 {l : List Int} : zkw l = 4 ↔ l = zW4 := by
  refine ⟨fun h => ?_, fun h => by rw [h]; decide⟩
  unfold zkw at h
  by_cases y : l = zW4
  · exact y
  · exfalso
    by_cases z0 : l = zW0
    · rw [if_pos z0] at h; exact absurd h (by decide)
    rw [if_neg z0] at h
    by_cases z1 : l = zW1
    · rw [if_pos z1] at h; exact absurd h (by decide)
    rw [if_neg z1] at h
    by_cases z2 : l = zW2
    · rw [if_pos z2] at h; exact absurd h (by decide)
    rw [if_neg z2] at h
    by_cases z3 : l = zW3
    · rw [if_pos z3] at h; exact absurd h (by decide)
    rw [if_neg z3] at h
    rw [if_neg y] at h
    by_cases z5 : l = zW5
    · rw [if_pos z5] at h; exact absurd h (by decide)
    rw [if_neg z5] at h
    by_cases z6 : l = zW6
    · rw [if_pos z6] at h; exact absurd h (by decide)
    rw [if_neg z6] at h
    by_cases z7 : l = zW7
    · rw [if_pos z7] at h; exact absurd h (by decide)
    rw [if_neg z7] at h
    exact absurd h (by decide)
theorem zkw_5 {l : List Int} : zkw l = 5 ↔ l = zW5 := by
  refine ⟨fun h => ?_, fun h => by rw [h]; decide⟩
  unfold zkw at h
  by_cases y : l = zW5
  · exact y
  · exfalso
    by_cases z0 : l = zW0
    · rw [if_pos z0] at h; exact absurd h (by decide)
    rw [if_neg z0] at h
    by_cases z1 : l = zW1
    · rw [if_pos z1] at h; exact absurd h (by decide)
    rw [if_neg z1] at h
    by_cases z2 : l = zW2
    · rw [if_pos z2] at h; exact absurd h (by decide)
    rw [if_neg z2] at h
    by_cases z3 : l = zW3
    · rw [if_pos z3] at h; exact absurd h (by decide)
    rw [if_neg z3] at h
    by_cases z4 : l = zW4
    · rw [if_pos z4] at h; exact absurd h (by decide)
    rw [if_neg z4] at h
    rw [if_neg y] at h
    by_cases z6 : l = zW6
    · rw [if_pos z6] at h; exact absurd h (by decide)
    rw [if_neg z6] at h
    by_cases z7 : l = zW7
    · rw [if_pos z7] at h; exact absurd h (by decide)
    rw [if_neg z7] at h
    exact absurd h (by decide)
theorem zkw_6 {l : List Int} : zkw l = 6 ↔ l = zW6 := by
  refine ⟨fun h => ?_, fun h => by rw [h]; decide⟩
  unfold zkw at h
  by_cases y : l = zW6
  · exact y
  · exfalso
    by_cases z0 : l = zW0
    · rw [if_pos z0] at h; exact absurd h (by decide)
    rw [if_neg z0] at h
    by_cases z1 : l = zW1
    · rw [if_pos z1] at h; exact absurd h (by decide)
    rw [if_neg z1] at h
    by_cases z2 : l = zW2
    · rw [if_pos z2] at h; exact absurd h (by decide)
    rw [if_neg z2] at h
    by_cases z3 : l = zW3
    · rw [if_pos z3] at h; exact absurd h (by decide)
    rw [if_neg z3] at h
    by_cases z4 : l = zW4
    · rw [if_pos z4] at h; exact absurd h (by decide)
    rw [if_neg z4] at h
    by_cases z5 : l = zW5
    · rw [if_pos z5] at h; exact absurd h (by decide)
    rw [if_neg z5] at h
    rw [if_neg y] at h
    by_cases z7 : l = zW7
    · rw [if_pos z7] at h; exact absurd h (by decide)
    rw [if_neg z7] at h
    exact absurd h (by decide)
theorem zkw_7 {l : List Int} : zkw l = 7 ↔ l = zW7 := by
  refine ⟨fun h => ?_, fun h => by rw [h]; decide⟩
  unfold zkw at h
  by_cases y : l = zW7
  · exact y
  · exfalso
    by_cases z0 : l = zW0
    · rw [if_pos z0] at h; exact absurd h (by decide)
    rw [if_neg z0] at h
    by_cases z1 : l = zW1
    · rw [if_pos z1] at h; exact absurd h (by decide)
    rw [if_neg z1] at h
    by_cases z2 : l = zW2
    · rw [if_pos z2] at h; exact absurd h (by decide)
    rw [if_neg z2] at h
    by_cases z3 : l = zW3
    · rw [if_pos z3] at h; exact absurd h (by decide)
    rw [if_neg z3] at h
    by_cases z4 : l = zW4
    · rw [if_pos z4] at h; exact absurd h (by decide)
    rw [if_neg z4] at h
    by_cases z5 : l = zW5
    · rw [if_pos z5] at h; exact absurd h (by decide)
    rw [if_neg z5] at h
    by_cases z6 : l = zW6
    · rw [if_pos z6] at h; exact absurd h (by decide)
    rw [if_neg z6] at h
    rw [if_neg y] at h
    exact absurd h (by decide)
theorem zkw_in {l : List Int} : zkw l = -1 ∨ 0 ≤ zkw l ∧ zkw l ≤ 7 := by
  unfold zkw
  by_cases z0 : l = zW0
  · rw [if_pos z0]; omega
  rw [if_neg z0]
  by_cases z1 : l = zW1
  · rw [if_pos z1]; omega
  rw [if_neg z1]
  by_cases z2 : l = zW2
  · rw [if_pos z2]; omega
  rw [if_neg z2]
  by_cases z3 : l = zW3
  · rw [if_pos z3]; omega
  rw [if_neg z3]
  by_cases z4 : l = zW4
  · rw [if_pos z4]; omega
  rw [if_neg z4]
  by_cases z5 : l = zW5
  · rw [if_pos z5]; omega
  rw [if_neg z5]
  by_cases z6 : l = zW6
  · rw [if_pos z6]; omega
  rw [if_neg z6]
  by_cases z7 : l = zW7
  · rw [if_pos z7]; omega
  rw [if_neg z7]
  exact Or.inl rfl
def zklin (l : List Int) : Int := if 0 ≤ zkw l ∧ zkw l ≤ 3 then zkw l else -1
def zklaw (l : List Int) : Int := if 4 ≤ zkw l then zkw l - 4 else -1
theorem zklin_32 {l : List Int} (h : zlet l) : (if zcdw 32 l = 18935 then 0 else if zcdw 32 l = 2610628 then 1 else if zcdw 32 l = 20583955 then 2 else if zcdw 32 l = 12343 then 3 else -1) = zklin l := by
  by_cases z0 : l = zW0
  · rw [if_pos ((zW0_32 h).mpr z0)]; subst z0; decide
  rw [if_neg (fun q => z0 ((zW0_32 h).mp q))]
  by_cases z1 : l = zW1
  · rw [if_pos ((zW1_32 h).mpr z1)]; subst z1; decide
  rw [if_neg (fun q => z1 ((zW1_32 h).mp q))]
  by_cases z2 : l = zW2
  · rw [if_pos ((zW2_32 h).mpr z2)]; subst z2; decide
  rw [if_neg (fun q => z2 ((zW2_32 h).mp q))]
  by_cases z3 : l = zW3
  · rw [if_pos ((zW3_32 h).mpr z3)]; subst z3; decide
  rw [if_neg (fun q => z3 ((zW3_32 h).mp q))]
  have i := zkw_in (l := l)
  have n0 : zkw l ≠ 0 := fun q => z0 (zkw_0.mp q)
  have n1 : zkw l ≠ 1 := fun q => z1 (zkw_1.mp q)
  have n2 : zkw l ≠ 2 := fun q => z2 (zkw_2.mp q)
  have n3 : zkw l ≠ 3 := fun q => z3 (zkw_3.mp q)
  unfold zklin
  rw [if_neg (by omega)]
theorem zklaw_32 {l : List Int} (h : zlet l) : (if zcdw 32 l = 17171758 then 0 else if zcdw 32 l = 23028434521 then 1 else if zcdw 32 l = 19500010660 then 2 else if zcdw 32 l = 67141 then 3 else -1) = zklaw l := by
  by_cases z4 : l = zW4
  · rw [if_pos ((zW4_32 h).mpr z4)]; subst z4; decide
  rw [if_neg (fun q => z4 ((zW4_32 h).mp q))]
  by_cases z5 : l = zW5
  · rw [if_pos ((zW5_32 h).mpr z5)]; subst z5; decide
  rw [if_neg (fun q => z5 ((zW5_32 h).mp q))]
  by_cases z6 : l = zW6
  · rw [if_pos ((zW6_32 h).mpr z6)]; subst z6; decide
  rw [if_neg (fun q => z6 ((zW6_32 h).mp q))]
  by_cases z7 : l = zW7
  · rw [if_pos ((zW7_32 h).mpr z7)]; subst z7; decide
  rw [if_neg (fun q => z7 ((zW7_32 h).mp q))]
  have i := zkw_in (l := l)
  have n0 : zkw l ≠ 4 := fun q => z4 (zkw_4.mp q)
  have n1 : zkw l ≠ 5 := fun q => z5 (zkw_5.mp q)
  have n2 : zkw l ≠ 6 := fun q => z6 (zkw_6.mp q)
  have n3 : zkw l ≠ 7 := fun q => z7 (zkw_7.mp q)
  unfold zklaw
  rw [if_neg (by omega)]
theorem zwd_let {T : Nat → Int} {N p : Nat} (hp : p ≤ N) : zlet (zwd T N p) := by
  have b1 : p ≤ zqq T N p ∧ zqq T N p ≤ N := zend_b (P := zbl T) hp
  have b2 : zqq T N p ≤ zle2 T N p ∧ zle2 T N p ≤ N := zend_b (P := zlr T) (N := N) (p := zqq T N p) b1.2
  exact zlt2_in (fun i hi => of_decide_eq_true (zend_in (P := zlr T) (c := N - zqq T N p) (p := zqq T N p) (i := zqq T N p + i) (by omega) (by omega) (show _ < zle2 T N p by omega)))
/-- the first check that fails: its kind, its place -/
def zfsf (T : Nat → Int) (N : Nat) : List (Bool × Nat × Int) → Int × Int
  | [] => (0, 0)
  | c :: l => if c.1 = true then zfsf T N l else (if c.2.2 = 2 ∧ zkd T N c.2.1 = 4 then 1 else c.2.2, ((zqq T N c.2.1 : Nat) : Int))
def zisNm (T : Nat → Int) (N p : Nat) : Bool := decide (zkd T N p = 1 ∧ zkw (zwd T N p) = -1)
def zisNu (T : Nat → Int) (N p : Nat) : Bool := decide (zkd T N p = 2)
def zrgn (T : Nat → Int) (N p : Nat) (most : Int) : Bool := decide (1 ≤ znm T N p ∧ znm T N p ≤ most)
def zisSg (T : Nat → Int) (N p : Nat) : Bool := decide (zkd T N p = 3)
def zisLw (T : Nat → Int) (N p : Nat) : Bool := decide (zkd T N p = 1 ∧ 4 ≤ zkw (zwd T N p))
abbrev zSta : Type := (List Int × Int × Int × Int) × List (List Int)
def zlnR (T : Nat → Int) (N : Nat) (s : zSta) (p : Nat) : List (Bool × Nat × Int) := [(decide (s.1.1.length < 6), p, 5), (zisNm T N (znx T N p), znx T N p, 2), (decide (zwd T N (znx T N p) ∉ s.2), znx T N p, 4), (zisNu T N (znx T N (znx T N p)), znx T N (znx T N p), 2), (zrgn T N (znx T N (znx T N p)) 999999999, znx T N (znx T N p), 3), (zisSg T N (znx T N (znx T N (znx T N p))), znx T N (znx T N (znx T N p)), 2)]
def zlnB (T : Nat → Int) (N : Nat) (p : Nat) (most : Int) : List (Bool × Nat × Int) := [(zisNu T N (znx T N p), znx T N p, 2), (zrgn T N (znx T N p) most, znx T N p, 3), (zisSg T N (znx T N (znx T N p)), znx T N (znx T N p), 2)]
def zlnL (T : Nat → Int) (N : Nat) (p : Nat) : List (Bool × Nat × Int) := [(zisLw T N (znx T N p), znx T N p, 2), (zisSg T N (znx T N (znx T N p)), znx T N (znx T N p), 2)]
/-- a LINE whose first TOKEN stands behind p: fault, where it ends, the state behind it -/
def zln (T : Nat → Int) (N : Nat) (s : zSta) (p : Nat) : (Int × Int) × Nat × zSta :=
  if zkd T N p = 1 ∧ zkw (zwd T N p) = 0 then (zfsf T N (zlnR T N s p), znx T N (znx T N (znx T N (znx T N p))), ((s.1.1 ++ [znm T N (znx T N (znx T N p))], s.1.2), s.2 ++ [zwd T N (znx T N p)]))
  else if zkd T N p = 1 ∧ zkw (zwd T N p) = 1 then (zfsf T N (zlnB T N p 999999999), znx T N (znx T N (znx T N p)), ((s.1.1, znm T N (znx T N p), s.1.2.2), s.2))
  else if zkd T N p = 1 ∧ zkw (zwd T N p) = 2 then (zfsf T N (zlnB T N p 100), znx T N (znx T N (znx T N p)), ((s.1.1, s.1.2.1, znm T N (znx T N p), s.1.2.2.2), s.2))
  else if zkd T N p = 1 ∧ zkw (zwd T N p) = 3 then (zfsf T N (zlnL T N p), znx T N (znx T N (znx T N p)), ((s.1.1, s.1.2.1, s.1.2.2.1, zkw (zwd T N (znx T N p)) - 4), s.2))
  else (zfsf T N [(false, p, 2)], p, s)
def zps (T : Nat → Int) (N : Nat) : Nat → zSta → Nat → (Int × Int) × zSta
  | 0, s, _ => ((0, 0), s)
  | F + 1, s, p => if zkd T N p = 0 then ((0, 0), s) else if (zln T N s p).1.1 = 0 then zps T N F (zln T N s p).2.2 (zln T N s p).2.1 else ((zln T N s p).1, s)
def zOkS (s : zSta) : Prop := zOkD s.1 ∧ s.2.length = s.1.1.length ∧ ∀ l ∈ s.2, zlet l
theorem zfsf_t {T : Nat → Int} {N : Nat} {c : Bool × Nat × Int} {l : List (Bool × Nat × Int)} (h : c.1 = true) : zfsf T N (c :: l) = zfsf T N l := if_pos h
theorem zfsf_f {T : Nat → Int} {N : Nat} {c : Bool × Nat × Int} {l : List (Bool × Nat × Int)} (h : c.1 = false) : zfsf T N (c :: l) = (if c.2.2 = 2 ∧ zkd T N c.2.1 = 4 then 1 else c.2.2, ((zqq T N c.2.1 : Nat) : Int)) := if_neg (by rw [h]; decide)
/-- without a fault all checks hold -/
theorem zfsf_0 {T : Nat → Int} {N : Nat} : ∀ {l : List (Bool × Nat × Int)}, (∀ c ∈ l, c.2.2 ≠ 0) → (zfsf T N l).1 = 0 → ∀ c ∈ l, c.1 = true
  | [], _, _, c, hc => by cases hc
  | a :: l, hk, h, c, hc => by
    cases ha : a.1 with
    | false =>
      rw [zfsf_f ha] at h
      have := hk a List.mem_cons_self
      have h : (if a.2.2 = 2 ∧ zkd T N a.2.1 = 4 then 1 else a.2.2) = (0 : Int) := h
      split at h
      · omega
      · exact absurd h this
    | true =>
      rw [zfsf_t ha] at h
      rcases List.mem_cons.mp hc with z | z
      · rw [z]; exact ha
      · exact zfsf_0 (fun b hb => hk b (List.mem_cons_of_mem _ hb)) h c z
theorem zln_ok {T : Nat → Int} {N p : Nat} {s : zSta} (hp : p ≤ N) (hs : zOkS s) (h : (zln T N s p).1.1 = 0) : zOkS (zln T N s p).2.2 ∧ (zln T N s p).2.1 ≤ N ∧ p < (zln T N s p).2.1 := by
  have b1 := znx_b (T := T) hp
  have b2 := znx_b (T := T) b1.2.1
  have b3 := znx_b (T := T) b2.2.1
  have b4 := znx_b (T := T) b3.2.1
  obtain ⟨⟨v1, v2, v3, v4, v5, v6⟩, s2, s3⟩ := hs
  unfold zln at h ⊢
  split at h
  · rename_i z
    rw [if_pos z]
    have hc := zfsf_0 (l := zlnR T N s p) (by unfold zlnR; intro c hc; simp only [List.mem_cons, List.not_mem_nil, or_false] at hc; rcases hc with rfl | rfl | rfl | rfl | rfl | rfl <;> (first | exact (by decide : (2 : Int) ≠ 0) | exact (by decide : (3 : Int) ≠ 0) | exact (by decide : (4 : Int) ≠ 0) | exact (by decide : (5 : Int) ≠ 0) | exact (by decide : (0 : Int) < 2) | exact (by decide : (0 : Int) < 3) | exact (by decide : (0 : Int) < 4) | exact (by decide : (0 : Int) < 5))) h
    unfold zlnR at hc
    have c1 := of_decide_eq_true (hc (decide (s.1.1.length < 6), p, 5) (by simp))
    have c5 := of_decide_eq_true (hc (zrgn T N (znx T N (znx T N p)) 999999999, znx T N (znx T N p), 3) (by simp))
    refine ⟨⟨⟨?_, ?_, v3, v4, v5, v6⟩, ?_, ?_⟩, b4.2.1, ?_⟩
    · show (s.1.1 ++ [znm T N (znx T N (znx T N p))]).length ≤ 6
      rw [List.length_append]
      show s.1.1.length + 1 ≤ 6
      omega
    · intro k hk
      show 1 ≤ (s.1.1 ++ [znm T N (znx T N (znx T N p))]).getD k 0 ∧ (s.1.1 ++ [znm T N (znx T N (znx T N p))]).getD k 0 ≤ 999999999
      have hk : k < (s.1.1 ++ [znm T N (znx T N (znx T N p))]).length := hk
      rw [List.length_append] at hk
      have hk : k < s.1.1.length + 1 := hk
      rw [List.getD_eq_getElem?_getD]
      by_cases y : k < s.1.1.length
      · rw [List.getElem?_append_left y, ← List.getD_eq_getElem?_getD]; exact v2 k y
      · have : k = s.1.1.length := by omega
        rw [this, List.getElem?_append_right (Nat.le_refl _), Nat.sub_self]; exact c5
    · show (s.2 ++ [zwd T N (znx T N p)]).length = (s.1.1 ++ [znm T N (znx T N (znx T N p))]).length
      rw [List.length_append, List.length_append, s2]; rfl
    · intro l hl
      rcases List.mem_append.mp hl with y | y
      · exact s3 l y
      · rw [List.mem_singleton.mp y]; exact zwd_let b1.2.1
    · show p < znx T N (znx T N (znx T N (znx T N p)))
      have := b1.2.2 (by omega); omega
  · rename_i z0
    rw [if_neg z0]
    split at h
    · rename_i z
      rw [if_pos z]
      have hc := zfsf_0 (l := zlnB T N p 999999999) (by unfold zlnB; intro c hc; simp only [List.mem_cons, List.not_mem_nil, or_false] at hc; rcases hc with rfl | rfl | rfl <;> (first | exact (by decide : (2 : Int) ≠ 0) | exact (by decide : (3 : Int) ≠ 0) | exact (by decide : (4 : Int) ≠ 0) | exact (by decide : (5 : Int) ≠ 0) | exact (by decide : (0 : Int) < 2) | exact (by decide : (0 : Int) < 3) | exact (by decide : (0 : Int) < 4) | exact (by decide : (0 : Int) < 5))) h
      unfold zlnB at hc
      have c5 := of_decide_eq_true (hc (zrgn T N (znx T N p) 999999999, znx T N p, 3) (by simp))
      exact ⟨⟨⟨v1, v2, c5, v4, v5, v6⟩, s2, s3⟩, b3.2.1, Nat.lt_of_lt_of_le (b1.2.2 (by omega)) (Nat.le_trans b2.1 b3.1)⟩
    · rename_i z1
      rw [if_neg z1]
      split at h
      · rename_i z
        rw [if_pos z]
        have hc := zfsf_0 (l := zlnB T N p 100) (by unfold zlnB; intro c hc; simp only [List.mem_cons, List.not_mem_nil, or_false] at hc; rcases hc with rfl | rfl | rfl <;> (first | exact (by decide : (2 : Int) ≠ 0) | exact (by decide : (3 : Int) ≠ 0) | exact (by decide : (4 : Int) ≠ 0) | exact (by decide : (5 : Int) ≠ 0) | exact (by decide : (0 : Int) < 2) | exact (by decide : (0 : Int) < 3) | exact (by decide : (0 : Int) < 4) | exact (by decide : (0 : Int) < 5))) h
        unfold zlnB at hc
        have c5 := of_decide_eq_true (hc (zrgn T N (znx T N p) 100, znx T N p, 3) (by simp))
        exact ⟨⟨⟨v1, v2, v3, c5, v5, v6⟩, s2, s3⟩, b3.2.1, Nat.lt_of_lt_of_le (b1.2.2 (by omega)) (Nat.le_trans b2.1 b3.1)⟩
      · rename_i z2
        rw [if_neg z2]
        split at h
        · rename_i z
          rw [if_pos z]
          have hc := zfsf_0 (l := zlnL T N p) (by unfold zlnL; intro c hc; simp only [List.mem_cons, List.not_mem_nil, or_false] at hc; rcases hc with rfl | rfl <;> (first | exact (by decide : (2 : Int) ≠ 0) | exact (by decide : (3 : Int) ≠ 0) | exact (by decide : (4 : Int) ≠ 0) | exact (by decide : (5 : Int) ≠ 0) | exact (by decide : (0 : Int) < 2) | exact (by decide : (0 : Int) < 3) | exact (by decide : (0 : Int) < 4) | exact (by decide : (0 : Int) < 5))) h
          unfold zlnL at hc
          have c5 := of_decide_eq_true (hc (zisLw T N (znx T N p), znx T N p, 2) (by simp))
          have i := zkw_in (l := zwd T N (znx T N p))
          refine ⟨⟨⟨v1, v2, v3, v4, ?_, ?_⟩, s2, s3⟩, b3.2.1, Nat.lt_of_lt_of_le (b1.2.2 (by omega)) (Nat.le_trans b2.1 b3.1)⟩
          · show 0 ≤ zkw (zwd T N (znx T N p)) - 4; omega
          · show zkw (zwd T N (znx T N p)) - 4 ≤ 3; omega
        · exfalso
          have h : (if (2 : Int) = 2 ∧ zkd T N p = 4 then 1 else 2) = (0 : Int) := h
          split at h <;> omega
