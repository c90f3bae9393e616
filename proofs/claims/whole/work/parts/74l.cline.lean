/-! the case load: the class's line and text -/
def zf39 (H H' : zHt) : Prop := ∀ a j : Int, ¬ (a = 33 ∧ (3 ≤ j ∧ j ≤ 7 ∨ j = 9 ∨ j = 10)) → H' a j = H a j
theorem zf39_33 {H0 H H' : zHt} (h : zf39 H0 H) (f : zf33 H H') : zf39 H0 H' := fun a j q => (f a j (fun z => q ⟨z.1, Or.inl z.2⟩)).trans (h a j q)
theorem zf39_tr {H H1 H2 : zHt} (h1 : zf39 H H1) (h2 : zf39 H1 H2) : zf39 H H2 := fun a j q => (h2 a j q).trans (h1 a j q)
theorem zf39_up {H0 H : zHt} {j x : Int} (hj : 3 ≤ j ∧ j ≤ 7 ∨ j = 9 ∨ j = 10) (h : zf39 H0 H) : zf39 H0 (zup H 33 j x) := fun a i q => by
  rw [zq_ne (fun z => q ⟨z.1, by rw [z.2]; exact hj⟩)]; exact h a i q
def zfld (H H' : zHt) : Prop := ∀ a j : Int, ¬ (a = 33 ∧ (3 ≤ j ∧ j ≤ 7 ∨ j = 9 ∨ j = 10)) → a ≠ 35 → a ≠ 42 → a ≠ 43 → H' a j = H a j
theorem zfld_39 {H0 H H' : zHt} (h : zfld H0 H) (f : zf39 H H') : zfld H0 H' := fun a j q q1 q2 q3 => (f a j q).trans (h a j q q1 q2 q3)
theorem zfld_up {H0 H : zHt} {a j x : Int} (ha : a = 35 ∨ a = 42 ∨ a = 43) (h : zfld H0 H) : zfld H0 (zup H a j x) := fun b i q q1 q2 q3 => by
  rw [zq_ne (by omega)]; exact h b i q q1 q2 q3
theorem zfld_tr {H H1 H2 : zHt} (h1 : zfld H H1) (h2 : zfld H1 H2) : zfld H H2 := fun a j q q1 q2 q3 => (h2 a j q q1 q2 q3).trans (h1 a j q q1 q2 q3)
theorem zfld_rfl {H : zHt} : zfld H H := fun _ _ _ _ _ _ => rfl
/-- how a reading step ends: the TOKEN behind p stands, or the fault is told -/
def zCr (T : Nat → Int) (N : Nat) (L : List (Bool × Nat × Int)) (p : Nat) (H0 : zHt) (x : Int) (H' : zHt) : Prop := zf39 H0 H' ∧ ((x = 1 ∧ (zfsf T N L).1 = 0 ∧ zCt H' T N p ∧ H' 33 9 = H0 33 9 ∧ H' 33 10 = H0 33 10) ∨ (x = 0 ∧ (zfsf T N L).1 ≠ 0 ∧ H' 33 9 = (zfsf T N L).1 ∧ H' 33 10 = (zfsf T N L).2))
section Z74l
variable {w : zWt} {d : Nat} {H : zHt} {T : Nat → Int} {N : Nat}
theorem zTx_39 {H' : zHt} (f : zf39 H H') (hT : zTx H T N) : zTx H' T N := ⟨hT.1, fun k hk => by rw [f 34 k (by omega)]; exact hT.2 k hk⟩
theorem zTx_cl {H' : zHt} (f : zfld H H') (hT : zTx H T N) : zTx H' T N := ⟨hT.1, fun k hk => by rw [f 34 k (by omega) (by omega) (by omega) (by omega)]; exact hT.2 k hk⟩
theorem c20 {k : Int} {K : Int → zHt → Prop} : zclI w d 20 [zR 33, zI k] H K = K 0 (zup (zup H 33 9 (if H 33 5 = 4 then 1 else k)) 33 10 (H 33 4)) := zclI_eq fun K h => x20_0 ⟨fun q => by rwa [if_neg q] at h, fun q => by rwa [if_pos q] at h⟩
/-- a check at the TOKEN that stands -/
theorem zCr_fail {L : List (Bool × Nat × Int)} {p : Nat} {k : Int} {H0 : zHt} (hf : zf39 H0 H) (hC : zCt H T N p) (hk : k ≠ 0) (hL : zfsf T N L = (if k = 2 ∧ zkd T N p = 4 then 1 else k, ((zqq T N p : Nat) : Int))) (h4 : zkd T N p = 4 → k = 2) (q : Nat) : zCr T N L q H0 0 (zup (zup H 33 9 (if H 33 5 = 4 then 1 else k)) 33 10 (H 33 4)) := by
  refine ⟨zf39_up (by omega) (zf39_up (by omega) hf), Or.inr ⟨rfl, ?_, ?_, ?_⟩⟩
  · rw [hL]
    show (if k = 2 ∧ zkd T N p = 4 then 1 else k) ≠ (0 : Int)
    split
    · decide
    · exact hk
  · rw [zq_ne (by omega), zq_eq, hL, hC.2.2.1]
    show _ = (if k = 2 ∧ zkd T N p = 4 then 1 else k)
    by_cases z : zkd T N p = 4
    · rw [if_pos z, if_pos ⟨h4 z, z⟩]
    · rw [if_neg z, if_neg (fun y => z y.2)]
  · rw [zq_eq, hL]; exact hC.2.1
theorem c35 {p : Nat} (hp : p ≤ N) (hT : zTx H T N) (h2 : H 33 2 = (N : Int)) (h3 : H 33 3 = (p : Int)) : ∃ x H', zCr T N [(zisSg T N p, p, 2)] p H x H' ∧ ∀ K : Int → zHt → Prop, zclI w (d + 2) 35 [zR 33] H K = K x H' := by
  obtain ⟨H1, ⟨f, C⟩, e⟩ := c15 (w := w) (d := d) hp hT h2 h3
  refine zclI_ex (x35_0 ?_)
  rw [e, C.2.2.1]
  refine ⟨fun q => ?_, fun q => ?_⟩
  · refine ⟨zf39_33 (fun _ _ _ => rfl) f, Or.inl ⟨rfl, ?_, C, f 33 9 (by omega), f 33 10 (by omega)⟩⟩
    rw [zfsf_t (decide_eq_true q)]; rfl
  · rw [c20]
    exact ⟨fun _ => zCr_fail (zf39_33 (fun _ _ _ => rfl) f) C (by decide) (zfsf_f (decide_eq_false q)) (fun _ => rfl) p, fun z => absurd rfl z⟩
theorem c33 {p : Nat} {most : Int} (hp : p ≤ N) (hT : zTx H T N) (h2 : H 33 2 = (N : Int)) (h3 : H 33 3 = (p : Int)) : ∃ x H', zCr T N [(zisNu T N p, p, 2), (zrgn T N p most, p, 3)] p H x H' ∧ ∀ K : Int → zHt → Prop, zclI w (d + 2) 33 [zR 33, zI most] H K = K x H' := by
  obtain ⟨H1, ⟨f, C⟩, e⟩ := c15 (w := w) (d := d) hp hT h2 h3
  have F : zf39 H H1 := zf39_33 (fun _ _ _ => rfl) f
  refine zclI_ex (x33_0 ?_)
  rw [e, C.2.2.1]
  refine ⟨fun q => ?_, fun q => ?_⟩
  · rw [C.2.2.2.2 q]
    have e1 := zfsf_t (T := T) (N := N) (c := (zisNu T N p, p, 2)) (l := [(zrgn T N p most, p, 3)]) (decide_eq_true q)
    have bad : ¬ (1 ≤ znm T N p ∧ znm T N p ≤ most) → zclI w (d + 1) 20 [zR 33, zI 3] H1 (fun x6 H5 => (x6 = 0 → zCr T N [(zisNu T N p, p, 2), (zrgn T N p most, p, 3)] p H 0 H5) ∧ (¬ x6 = 0 → zCr T N [(zisNu T N p, p, 2), (zrgn T N p most, p, 3)] p H 1 H5)) := fun z => by
      rw [c20]
      exact ⟨fun _ => zCr_fail F C (by decide : (3 : Int) ≠ 0) (e1.trans (zfsf_f (decide_eq_false z))) (fun y => by omega) p, fun z => absurd rfl z⟩
    refine ⟨fun z => bad (by omega), fun z => ⟨fun y => ?_, fun y => bad (by omega)⟩⟩
    refine ⟨F, Or.inl ⟨rfl, ?_, C, f 33 9 (by omega), f 33 10 (by omega)⟩⟩
    rw [e1, zfsf_t (decide_eq_true ⟨z, y⟩)]; rfl
  · rw [c20]
    exact ⟨Or.inl rfl, zCr_fail F C (by decide) (zfsf_f (decide_eq_false q)) (fun _ => rfl) p⟩
theorem c36 {p : Nat} (hp : p ≤ N) (hT : zTx H T N) (h2 : H 33 2 = (N : Int)) (h3 : H 33 3 = (p : Int)) : ∃ x H', zCr T N [(zisLw T N p, p, 2)] p H x H' ∧ ∀ K : Int → zHt → Prop, zclI w (d + 6) 36 [zR 33] H K = K x H' := by
  obtain ⟨H1, ⟨f, C⟩, e⟩ := c15 (w := w) (d := d + 4) hp hT h2 h3
  have F : zf39 H H1 := zf39_33 (fun _ _ _ => rfl) f
  refine zclI_ex (x36_0 ?_)
  rw [e, C.2.2.1]
  refine ⟨fun q => ?_, fun q => ?_⟩
  · rw [c20]
    exact ⟨fun _ => zCr_fail F C (by decide) (zfsf_f (decide_eq_false (fun z => q z.1))) (fun _ => rfl) p, fun z => absurd rfl z⟩
  · have i := zkw_in (l := zwd T N p)
    rw [c32, C.2.2.2.1 q, zklaw_32 (zwd_let hp)]
    refine ⟨fun z => ?_, fun z => ?_⟩
    · refine ⟨F, Or.inl ⟨rfl, ?_, C, f 33 9 (by omega), f 33 10 (by omega)⟩⟩
      have y : 4 ≤ zkw (zwd T N p) := by
        unfold zklaw at z
        by_cases y : 4 ≤ zkw (zwd T N p)
        · exact y
        · rw [if_neg y] at z; exact absurd rfl z
      rw [zfsf_t (show zisLw T N p = true from decide_eq_true ⟨q, y⟩)]; rfl
    · rw [c20]
      refine ⟨fun _ => zCr_fail F C (by decide) (zfsf_f (decide_eq_false (fun y => ?_))) (fun _ => rfl) p, fun z => absurd rfl z⟩
      unfold zklaw at z
      rw [if_pos y.2] at z
      omega
/-- the names so far -/
def zNmC (H : zHt) (l : List (List Int)) : Prop := ∀ k : Nat, k < l.length → H 35 k = zcdw 32 (l.getD k [])
theorem c31l {L : List (Bool × Nat × Int)} {p : Nat} {H0 : zHt} {nm : List (List Int)} (hp : p ≤ N) (F : zf39 H0 H) (C : zCt H T N p) (h9 : H 33 9 = H0 33 9) (h10 : H 33 10 = H0 33 10) (hk : zkd T N p = 1) (hn : zNmC H nm) (h6 : nm.length ≤ 6) (hl : ∀ l ∈ nm, zlet l) (hL : zfsf T N L = zfsf T N [(decide (zwd T N p ∉ nm), p, 4)]) : ∀ (suf pre : List (List Int)), nm = pre ++ suf → zwd T N p ∉ pre → zgo w (d + 1) 31 42 [zR 33, zI (nm.length : Int), zI (pre.length : Int)] [] H (zQI (zCr T N L p H0)) := by
  intro suf
  induction suf with
  | nil =>
    intro pre hs hq
    rw [List.append_nil] at hs
    refine x31_42 ⟨fun _ => ⟨F, Or.inl ⟨rfl, ?_, C, h9, h10⟩⟩, fun q => by rw [hs] at q; omega⟩
    rw [hL, zfsf_t (decide_eq_true (by rw [hs]; exact hq))]; rfl
  | cons a suf ih =>
    intro pre hs hq
    have hlen : nm.length = pre.length + (suf.length + 1) := by rw [hs, List.length_append]; rfl
    have ha : nm.getD pre.length [] = a := by
      rw [hs, List.getD_eq_getElem?_getD, List.getElem?_append_right (Nat.le_refl _), Nat.sub_self]; rfl
    have ham : a ∈ nm := by rw [hs]; simp
    have he : (H 35 (pre.length : Int) = H 33 6) ↔ a = zwd T N p := by
      rw [hn pre.length (by omega), ha, C.2.2.2.1 hk]
      exact ⟨fun e => zcdw_inj (b := 32) (by omega) (hl a ham) (zwd_let hp) e, fun e => by rw [e]⟩
    refine x31_42 ⟨fun q => by omega, fun _ => ⟨fun q => by omega, fun _ => ⟨by omega, fun q => ?_, fun q => ?_⟩⟩⟩
    · rw [show w32 ((pre.length : Int) + 1) = ((pre ++ [a]).length : Int) by rw [w32_id (by omega), List.length_append]; simp]
      refine ih (pre ++ [a]) (by rw [hs, List.append_assoc]; rfl) (fun z => ?_)
      rcases List.mem_append.mp z with z | z
      · exact hq z
      · exact q (he.mpr (List.mem_singleton.mp z).symm)
    · have e := he.mp q
      rw [c20]
      refine ⟨Or.inl rfl, zCr_fail F C (by decide : (4 : Int) ≠ 0) (hL.trans (zfsf_f (decide_eq_false (fun z => z ?_)))) (fun y => by omega) p⟩
      rw [← e]; exact ham
theorem c31 {p : Nat} {nm : List (List Int)} (hp : p ≤ N) (hT : zTx H T N) (h2 : H 33 2 = (N : Int)) (h3 : H 33 3 = (p : Int)) (hn : zNmC H nm) (h6 : nm.length ≤ 6) (hl : ∀ l ∈ nm, zlet l) : ∃ x H', zCr T N [(zisNm T N p, p, 2), (decide (zwd T N p ∉ nm), p, 4)] p H x H' ∧ ∀ K : Int → zHt → Prop, zclI w (d + 6) 31 [zR 33, zI (nm.length : Int)] H K = K x H' := by
  obtain ⟨H1, ⟨f, C⟩, e⟩ := c15 (w := w) (d := d + 4) hp hT h2 h3
  have F : zf39 H H1 := zf39_33 (fun _ _ _ => rfl) f
  refine zclI_ex (x31_0 ?_)
  rw [e, C.2.2.1]
  refine ⟨fun q => ?_, fun q => ?_⟩
  · rw [c20]
    exact ⟨Or.inl rfl, zCr_fail F C (by decide) (zfsf_f (decide_eq_false (fun z => q z.1))) (fun _ => rfl) p⟩
  · have i := zkw_in (l := zwd T N p)
    rw [c21, C.2.2.2.1 q, zklin_32 (zwd_let hp)]
    have bad : zkw (zwd T N p) ≠ -1 → zclI w (d + 5) 20 [zR 33, zI 2] H1 (fun x H' => (x = 0 ∨ x = 1) ∧ zCr T N [(zisNm T N p, p, 2), (decide (zwd T N p ∉ nm), p, 4)] p H x H') := fun z => by
      rw [c20]
      exact ⟨Or.inl rfl, zCr_fail F C (by decide) (zfsf_f (decide_eq_false (fun y => z y.2))) (fun _ => rfl) p⟩
    refine ⟨fun z => bad (fun y => z ?_), fun z => ?_⟩
    · unfold zklin; rw [if_neg (by omega)]
    · rw [c32, zklaw_32 (zwd_let hp)]
      refine ⟨fun y => ?_, fun y => bad (fun x => y ?_)⟩
      · have hw : zkw (zwd T N p) = -1 := by
          unfold zklin at z
          unfold zklaw at y
          split at z
          · omega
          · split at y <;> omega
        exact c31l hp F C (f 33 9 (by omega)) (f 33 10 (by omega)) q (fun k hk => (f 35 k (by omega)).trans (hn k hk)) h6 hl (zfsf_t (decide_eq_true ⟨q, hw⟩)) nm [] rfl List.not_mem_nil
      · unfold zklaw; rw [if_neg (by omega)]
end Z74l
