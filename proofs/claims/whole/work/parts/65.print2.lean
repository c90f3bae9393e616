/-! the case print, the row -/
def zPr (A P J : Int) (T : List Int) (H : zHt) : Prop := H P J = (T.length : Int) ∧ zArr H A T
theorem zPr_wl {A P J : Int} {T S : List Int} {H : zHt} (hA : A ≠ P) (h : zPr A P J T H) (hb : T.length + S.length ≤ 6000) : zPr A P J (T ++ S) (zwl A P J S H) := by
  obtain ⟨a1, a2, a3⟩ := zwl_at hA h.1 hb
  refine ⟨by rw [a1, List.length_append], fun k hk => ?_⟩
  rw [List.length_append] at hk
  by_cases z : k < T.length
  · rw [a3 A k (fun y => hA y.1) (by omega), h.2 k z, List.getD_eq_getElem?_getD, List.getD_eq_getElem?_getD, List.getElem?_append_left z]
  · obtain ⟨i, rfl⟩ : ∃ i : Nat, k = T.length + i := ⟨k - T.length, by omega⟩
    rw [a2 i (by omega), List.getD_eq_getElem?_getD, List.getD_eq_getElem?_getD, List.getElem?_append_right (by omega), Nat.add_sub_cancel_left]
def zfi (H0 H : zHt) : Prop := ∀ a j : Int, a ≠ 37 → a ≠ 38 → ¬ (a = 36 ∧ j = 3) → a ≠ 49 → ¬ (a = 48 ∧ j = 1) → H a j = H0 a j
def zfj (H0 H : zHt) : Prop := ∀ a j : Int, a ≠ 85 → a ≠ 86 → ¬ (a = 81 ∧ j = 8) → a ≠ 98 → ¬ (a = 81 ∧ j = 29) → H a j = H0 a j
section Z65
variable {w : zWt} {d : Nat} {H : zHt}
theorem zfi_wl {H0 H1 : zHt} {S : List Int} {m : Nat} (f : zfi H0 H) (f1 : zfc H H1) (hm : H1 48 1 = (m : Int)) (hb : m + S.length ≤ 6000) : zfi H0 (zwl 49 48 1 S H1) := fun a j h1 h2 h3 h4 h5 => by
  rw [(zwl_at (by decide) hm hb).2.2 a j h5 (fun z => h4 z.1), f1 a j h1 h2 h3]; exact f a j h1 h2 h3 h4 h5
theorem zfj_wl {H0 H1 : zHt} {S : List Int} {m : Nat} (f : zfj H0 H) (f1 : zfm H H1) (hm : H1 81 29 = (m : Int)) (hb : m + S.length ≤ 6000) : zfj H0 (zwl 98 81 29 S H1) := fun a j h1 h2 h3 h4 h5 => by
  rw [(zwl_at (by decide) hm hb).2.2 a j h5 (fun z => h4 z.1), f1 a j h1 h2 h3]; exact f a j h1 h2 h3 h4 h5
theorem c164s {H0 : zHt} {n : Nat} {T : List Int} {K : zHt → Prop} (hMR : zMR) (hn : n ≤ 999999999) (f : zfi H0 H) (t : zPr 49 48 1 T H) (hb : T.length + 80 ≤ 3232) (h : ∀ H', zfi H0 H' → zPr 49 48 1 (T ++ zvtx n) H' → K H') : zclV w (d + 3) 166 [zR 48, zI n, zR 36] H K := by
  obtain ⟨H1, f1, e1⟩ := c166 (w := w) (d := d) hMR hn t.1 hb
  rw [e1]
  have t1 : zPr 49 48 1 T H1 := ⟨by rw [f1 48 1 (by decide) (by decide) (by omega)]; exact t.1, zArr_eq (fun k _ => f1 49 k (by decide) (by decide) (by omega)) t.2⟩
  have hl := zvtx_len w hn
  exact h _ (zfi_wl f f1 t1.1 (by omega)) (zPr_wl (by decide) t1 (by omega))
theorem c270s {H0 : zHt} {n : Nat} {T : List Int} {K : zHt → Prop} (hn : n ≤ 999999999) (f : zfj H0 H) (t : zPr 98 81 29 T H) (hb : T.length + 80 ≤ 3232) (h : ∀ H', zfj H0 H' → zPr 98 81 29 (T ++ zvtx n) H' → K H') : zclV w (d + 3) 272 [zR 81, zI n] H K := by
  obtain ⟨H1, f1, e1⟩ := c272 (w := w) (d := d) hn t.1 hb
  rw [e1]
  have t1 : zPr 98 81 29 T H1 := ⟨by rw [f1 81 29 (by decide) (by decide) (by omega)]; exact t.1, zArr_eq (fun k _ => f1 98 k (by decide) (by decide) (by omega)) t.2⟩
  have hl := zvtx_len w hn
  exact h _ (zfj_wl f f1 t1.1 (by omega)) (zPr_wl (by decide) t1 (by omega))
theorem zPr_1 {A P J x : Int} {T : List Int} (hA : A ≠ P) (t : zPr A P J T H) (hb : T.length < 3232) : zPr A P J (T ++ [x]) (zwr A P J x H) := zPr_wl (S := [x]) hA t (by show T.length + 1 ≤ 6000; omega)
theorem c164l {H0 : zHt} {o : Int} {l : List Int} {K : zHt → Prop} (hMR : zMR) (ho : zisW o) (ho2 : 50 ≤ o) (hl : ∀ v ∈ l, 0 ≤ v ∧ v ≤ 999999999) (h101 : l.length ≤ 101) (hlen : H0 o 1 = l.length) (hA : zArr H0 (o + 1) l) : ∀ {suf pre : List Int} {H : zHt} {T : List Int}, l = pre ++ suf → 1 ≤ pre.length → zfi H0 H → zPr 49 48 1 T H → T.length + 29 * suf.length + 100 ≤ 3232 → (∀ H', zfi H0 H' → zPr 49 48 1 (T ++ zrts suf) H' → K H') → zgo w (d + 4) 164 7 [zR 48, zR o, zR 36, zI pre.length] [] H (zQV K)
  | [], pre, H, T, e, h1, f, t, hb, h => x164_7 ho ⟨fun _ => h H f (by show zPr 49 48 1 (T ++ []) H; rw [List.append_nil]; exact t), fun q => by rw [f o 1 (by omega) (by omega) (by omega) (by omega) (by omega), hlen, e, List.append_nil] at q; omega⟩
  | v :: suf, pre, H, T, e, h1, f, t, hb, h => by
    have hp : pre.length + 1 + suf.length = l.length := by rw [e, List.length_append, List.length_cons]; omega
    have hs : (v :: suf).length = suf.length + 1 := rfl
    obtain ⟨v0, v9⟩ := hl v (by rw [e]; simp)
    obtain ⟨n, rfl⟩ := Int.eq_ofNat_of_zero_le v0
    have hv : H0 (o + 1) (pre.length : Int) = n := by
      rw [hA pre.length (by omega), e, List.getD_eq_getElem?_getD, List.getElem?_append_right (Nat.le_refl _), Nat.sub_self]; rfl
    refine x164_7 ho ⟨fun q => by rw [f o 1 (by omega) (by omega) (by omega) (by omega) (by omega), hlen] at q; omega, fun _ => ⟨fun q => by omega, fun _ => ?_⟩⟩
    have ht := t.1
    rw [c165 (by omega)]
    have f1 : zfi H0 (zwr 49 48 1 32 H) := zfi_wl (S := [32]) f zfc_rfl ht (by show T.length + 1 ≤ 6000; omega)
    have t1 := zPr_1 (x := 32) (by decide) t (by omega)
    refine ⟨by omega, ?_⟩
    rw [f1 (o + 1) _ (by omega) (by omega) (by omega) (by omega) (by omega), hv, zi1 (by omega)]
    have hl1 : (T ++ [32]).length = T.length + 1 := by rw [List.length_append]; rfl
    have hl2 := zvtx_len w (n := n) (by omega)
    refine c164s hMR (by omega) f1 t1 (by omega) (fun H' f2 t2 => ?_)
    have := c164l hMR ho ho2 hl h101 hlen hA (suf := suf) (pre := pre ++ [(n : Int)]) (H := H') (T := T ++ [32] ++ zvtx n) (K := K) (by rw [e]; simp) (by rw [List.length_append]; omega) f2 t2 (by rw [List.length_append, hl1]; omega) (fun H3 f3 t3 => h H3 f3 (by rw [List.append_assoc, List.append_assoc] at t3; exact t3))
    rw [List.length_append] at this
    exact this
theorem c164 {o : Int} {l : List Int} {K : zHt → Prop} (hMR : zMR) (ho : zisW o) (ho2 : 50 ≤ o) (hl : ∀ v ∈ l, 0 ≤ v ∧ v ≤ 999999999) (h101 : l.length ≤ 101) (h1 : 1 ≤ l.length) (hlen : H o 1 = l.length) (hA : zArr H (o + 1) l) (h : ∀ H', zfi H H' → zPr 49 48 1 (zrtx l) H' → K H') : zclV w (d + 4) 164 [zR 48, zR o, zR 36] H K := by
  cases l with
  | nil => exact absurd h1 (by decide)
  | cons v l =>
    obtain ⟨v0, v9⟩ := hl v List.mem_cons_self
    obtain ⟨n, rfl⟩ := Int.eq_ofNat_of_zero_le v0
    have hv : H (o + 1) 0 = n := hA 0 (by omega)
    have hs : ((n : Int) :: l).length = l.length + 1 := rfl
    have f0 : zfi H (zup H 48 1 0) := fun a j q1 q2 q3 q4 q5 => zq_ne q5
    refine x164_0 ho (x164_7 ho ⟨fun q => by rw [zq_ne (by omega), hlen] at q; omega, fun _ => ⟨fun _ => ⟨by omega, ?_⟩, fun q => absurd q (by decide)⟩⟩)
    rw [zq_ne (by omega), hv, show w32 (0 + 1) = (((1 : Nat)) : Int) from (zi1 (m := 0) (by omega) : w32 (((0 : Nat) : Int) + 1) = _)]
    have hl2 := zvtx_len w (n := n) (by omega)
    refine c164s (T := []) hMR (by omega) f0 ⟨zq_eq, fun k hk => absurd hk (Nat.not_lt_zero k)⟩ (by show 0 + 80 ≤ 3232; omega) (fun H' f2 t2 => ?_)
    exact c164l hMR ho ho2 hl h101 hlen hA (suf := l) (pre := [(n : Int)]) rfl (Nat.le_refl 1) f2 t2 (by rw [List.nil_append]; omega) (fun H3 f3 t3 => h H3 f3 t3)
-- the model
theorem c270l {H0 : zHt} {l : List Int} {P : Int → zHt → Prop} (hl : ∀ v ∈ l, 0 ≤ v ∧ v ≤ 999999999) (h101 : l.length ≤ 101) (hlen : H0 81 21 = l.length) (hA : zArr H0 94 l) : ∀ {suf pre : List Int} {H : zHt} {T : List Int}, l = pre ++ suf → 1 ≤ pre.length → zfj H0 H → zPr 98 81 29 T H → T.length + 29 * suf.length + 100 ≤ 3232 → (∀ H', zfj H0 H' → zPr 98 81 29 (T ++ zrts suf) H' → P (H' 81 29) H') → zgo w (d + 4) 270 18 [zR 81, zJ, zI pre.length] [] H (zQI P)
  | [], pre, H, T, e, h1, f, t, hb, h => x270_18 ⟨fun _ => h H f (by show zPr 98 81 29 (T ++ []) H; rw [List.append_nil]; exact t), fun q => by rw [f 81 21 (by omega) (by omega) (by omega) (by omega) (by omega), hlen, e, List.append_nil] at q; omega⟩
  | v :: suf, pre, H, T, e, h1, f, t, hb, h => by
    have hp : pre.length + 1 + suf.length = l.length := by rw [e, List.length_append, List.length_cons]; omega
    have hs : (v :: suf).length = suf.length + 1 := rfl
    obtain ⟨v0, v9⟩ := hl v (by rw [e]; simp)
    obtain ⟨n, rfl⟩ := Int.eq_ofNat_of_zero_le v0
    have hv : H0 94 (pre.length : Int) = n := by
      rw [hA pre.length (by omega), e, List.getD_eq_getElem?_getD, List.getElem?_append_right (Nat.le_refl _), Nat.sub_self]; rfl
    refine x270_18 ⟨fun q => by rw [f 81 21 (by omega) (by omega) (by omega) (by omega) (by omega), hlen] at q; omega, fun _ => ⟨fun q => by omega, fun _ => ?_⟩⟩
    have ht := t.1
    rw [c271 (by omega)]
    have f1 : zfj H0 (zwr 98 81 29 32 H) := zfj_wl (S := [32]) f (fun _ _ _ _ _ => rfl) ht (by show T.length + 1 ≤ 6000; omega)
    have t1 := zPr_1 (x := 32) (by decide) t (by omega)
    refine ⟨by omega, ?_⟩
    rw [f1 94 _ (by omega) (by omega) (by omega) (by omega) (by omega), hv, zi1 (by omega)]
    have hl1 : (T ++ [32]).length = T.length + 1 := by rw [List.length_append]; rfl
    have hl2 := zvtx_len w (n := n) (by omega)
    refine c270s (by omega) f1 t1 (by omega) (fun H' f2 t2 => ?_)
    have := c270l hl h101 hlen hA (suf := suf) (pre := pre ++ [(n : Int)]) (H := H') (T := T ++ [32] ++ zvtx n) (P := P) (by rw [e]; simp) (by rw [List.length_append]; omega) f2 t2 (by rw [List.length_append, hl1]; omega) (fun H3 f3 t3 => h H3 f3 (by rw [List.append_assoc, List.append_assoc] at t3; exact t3))
    rw [List.length_append] at this
    exact this
theorem c270a {l : List Int} {P : Int → zHt → Prop} (hl : ∀ v ∈ l, 0 ≤ v ∧ v ≤ 999999999) (h101 : l.length ≤ 101) (h1 : 1 ≤ l.length) (hlen : H 81 21 = l.length) (hA : zArr H 94 l) (h : ∀ H', zfj H H' → zPr 98 81 29 (zrtx l) H' → P (H' 81 29) H') : zgo w (d + 4) 270 18 [zR 81, zJ, zI 0] [] (zup H 81 29 0) (zQI P) := by
  cases l with
  | nil => exact absurd h1 (by decide)
  | cons v l =>
    obtain ⟨v0, v9⟩ := hl v List.mem_cons_self
    obtain ⟨n, rfl⟩ := Int.eq_ofNat_of_zero_le v0
    have hv : H 94 0 = n := hA 0 (by omega)
    have hs : ((n : Int) :: l).length = l.length + 1 := rfl
    have f0 : zfj H (zup H 81 29 0) := fun a j q1 q2 q3 q4 q5 => zq_ne q5
    refine x270_18 ⟨fun q => by rw [zq_ne (by omega), hlen] at q; omega, fun _ => ⟨fun _ => ⟨by omega, ?_⟩, fun q => absurd q (by decide)⟩⟩
    rw [zq_ne (by omega), hv, show w32 (0 + 1) = (((1 : Nat)) : Int) from (zi1 (m := 0) (by omega) : w32 (((0 : Nat) : Int) + 1) = _)]
    have hl2 := zvtx_len w (n := n) (by omega)
    refine c270s (T := []) (by omega) f0 ⟨zq_eq, fun k hk => absurd hk (Nat.not_lt_zero k)⟩ (by show 0 + 80 ≤ 3232; omega) (fun H' f2 t2 => ?_)
    exact c270l hl h101 hlen hA (suf := l) (pre := [(n : Int)]) rfl (Nat.le_refl 1) f2 t2 (by rw [List.nil_append]; omega) (fun H3 f3 t3 => h H3 f3 t3)
theorem zrtx_len (w : zWt) {l : List Int} (hl : ∀ v ∈ l, 0 ≤ v ∧ v ≤ 999999999) (h : l.length ≤ 101) : (zrtx l).length ≤ 2929 := by
  cases l with
  | nil => exact Nat.zero_le _
  | cons v l =>
    have := zrts_len w hl
    have e : (zrts (v :: l)).length = (zrtx (v :: l)).length + 1 := rfl
    omega
theorem zWlk_f {H' : zHt} (f : ∀ a j : Int, (40 ≤ a ∧ a ≤ 41 ∨ 69 ≤ a ∧ a ≤ 80) → H' a j = H a j) (hw : zWlk H) : zWlk H' := fun r h6 h1 h2 => by
  rw [f 40 1 (by omega)] at h1
  rw [f _ _ (by omega)] at h2
  obtain ⟨a1, a2, a3, a4⟩ := hw r h6 h1 h2
  rw [f 40 4 (by omega), f 40 2 (by omega), f 40 3 (by omega), f 41 r (by omega)]
  exact ⟨by rw [f _ _ (by omega)]; exact a1, by rw [f _ _ (by omega)]; exact a2, by rw [f _ _ (by omega)]; exact a3, zArr_eq (fun k _ => f _ _ (by omega)) a4⟩
theorem zDk_f {H' : zHt} (f : ∀ a j : Int, (a = 40 ∨ a = 41 ∨ a = 82) → H' a j = H a j) (h : zDk H) : zDk H' := by
  have e1 : ∀ j, H' 40 j = H 40 j := fun j => f 40 j (by omega)
  have e2 : ∀ j, H' 41 j = H 41 j := fun j => f 41 j (by omega)
  have e3 : ∀ j, H' 82 j = H 82 j := fun j => f 82 j (by omega)
  unfold zDk at h ⊢
  simp only [e1, e2, e3]
  exact h
/-- all but the ink kept -/
theorem zAllR_i {H' : zHt} (f : ∀ a j : Int, zrel2 a j = true → a ≠ 49 → a ≠ 98 → ¬ (a = 48 ∧ j = 1) → ¬ (a = 81 ∧ j = 29) → H' a j = H a j) (hw : zWlk H') (hi : zIk H') (h : zAllR H) : zAllR H' := by
  obtain ⟨h1, h2, h3, h4, h5, h6⟩ := h
  refine ⟨zDk_f (fun a j q => ?_) h1, ?_, ?_, ?_, hi, hw⟩
  · rcases q with rfl | rfl | rfl
    · exact f 40 j rfl (by decide) (by decide) (by omega) (by omega)
    · exact f 41 j rfl (by decide) (by decide) (by omega) (by omega)
    · exact f 82 j rfl (by decide) (by decide) (by omega) (by omega)
  · rw [f 32 12 rfl (by decide) (by decide) (by omega) (by omega), f 32 13 rfl (by decide) (by decide) (by omega) (by omega), f 81 32 rfl (by decide) (by decide) (by omega) (by omega), f 81 33 rfl (by decide) (by decide) (by omega) (by omega)]; exact ⟨h2.1, zM93_k h2.2 (fun j => f 93 j rfl (by decide) (by decide) (by omega) (by omega)) (fun j => f 101 j rfl (by decide) (by decide) (by omega) (by omega))⟩
  · have e1 : ∀ j, H' 34 j = H 34 j := fun j => f 34 j rfl (by decide) (by decide) (by omega) (by omega)
    have e2 : ∀ j, H' 99 j = H 99 j := fun j => f 99 j rfl (by decide) (by decide) (by omega) (by omega)
    unfold zTp at h3 ⊢
    rw [f 33 8 rfl (by decide) (by decide) (by omega) (by omega), f 81 31 rfl (by decide) (by decide) (by omega) (by omega)]
    simp only [e1, e2]
    exact h3
  · have e1 : ∀ j, H' 44 j = H 44 j := fun j => f 44 j rfl (by decide) (by decide) (by omega) (by omega)
    obtain ⟨a1, a2, a3, a4, a5, a6⟩ := h4
    unfold zAc
    rw [f 32 11 rfl (by decide) (by decide) (by omega) (by omega), f 81 5 rfl (by decide) (by decide) (by omega) (by omega)]
    simp only [e1]
    refine ⟨a1, a2, a3, a4, a5, fun i hi => ?_⟩
    obtain ⟨j, hj, ej⟩ := a4 i (by omega)
    exact zDa_eq (fun q => f _ _ (zrel2_d (by omega)) (by omega) (by omega) (by omega) (by omega)) (fun q => f _ _ (zrel2_d (by omega)) (by omega) (by omega) (by omega) (by omega)) (fun q => f 84 q rfl (by decide) (by decide) (by omega) (by omega)) (a6 i hi)
-- print
theorem zrel2_1 {a j : Int} (q : zrel2 a j = true) : zrel a j = true := by
  unfold zrel2 at q
  rw [Bool.and_eq_true] at q; exact q.1
theorem l2186 (hw : w.1 ≤ 3072) (hMR : zMR) : zLaw w (zKept zAllR) 2186 := fun H i hi hR K nx => x0_2186 (d := 1999) (by
  refine ⟨zidx hw hi (by decide) (by decide), ?_⟩
  generalize zH0 w.2 0 (w32 ((i : Int) + 1)) = r
  have hD := hR.2.1
  have hW := hR.2.2.2.2.2.2
  have h6 := hD.2.2.2.2.2.1
  have m6 := hD.2.2.1
  by_cases hr : 0 ≤ r ∧ r < H 40 1
  · have hok := zRW_ok hMR hD hr
    have hv : ∀ v ∈ (zRW H r).1, 0 ≤ v ∧ v ≤ 999999999 := fun v hv => by
      obtain ⟨k, hk, rfl⟩ := List.getElem_of_mem hv
      have := hok.2.2.1 k hk
      rw [List.getD_eq_getElem?_getD, List.getElem?_eq_getElem hk] at this
      exact this
    have hTl := zrtx_len w hv hok.2.1
    refine zclI_mono (K := fun x H2 => x = ((zrtx (zRW H r).1).length : Int) ∧ H2 32 14 = 0 ∧ zPr 49 48 1 (zrtx (zRW H r).1) H2 ∧ zWlk H2 ∧ ∀ a j : Int, zrel2 a j = true → a ≠ 49 → ¬ (a = 48 ∧ j = 1) → H2 a j = H a j) (x163_0 (d := 1998) ?_) (fun x H2 q1 => ?_)
    · rw [c106 (by omega), if_pos hr]
      refine ⟨fun _ => ?_, fun q => absurd q (by decide)⟩
      refine zwalk (d := 1993) hMR hD hW hr (fun o H1 ho eo fo wo => ?_)
      refine c164 (d := 1994) hMR ho (by omega) hv hok.2.1 hok.1 wo.1 wo.2.2.2 (fun H3 f3 t3 => ?_)
      rw [c39]
      refine ⟨t3.1, zq_eq, ⟨by rw [zq_ne (by omega)]; exact t3.1, zArr_eq (fun k _ => by rw [zq_ne (by omega)]) t3.2⟩, zWlk_f (fun a j q => by rw [zq_ne (by omega)]; exact f3 a j (by omega) (by omega) (by omega) (by omega) (by omega)) (fo.1.2 hW), fun a j q q1 q2 => ?_⟩
      have qz := zrel2_1 q
      rw [zq_ne (fun z => by obtain ⟨rfl, rfl⟩ := z; cases qz), f3 a j (fun z => by subst z; cases qz) (fun z => by subst z; cases qz) (fun z => by obtain ⟨rfl, rfl⟩ := z; cases qz) q1 q2]
      exact zcf_at fo q
    · obtain ⟨x1, x2, x3, x4, x5⟩ := q1
      have hD2 : zDk H2 := zDk_f (fun a j q => by
        rcases q with rfl | rfl | rfl
        · exact x5 40 j rfl (by decide) (by omega)
        · exact x5 41 j rfl (by decide) (by omega)
        · exact x5 82 j rfl (by decide) (by omega)) hD
      have eW : zRW H2 r = zRW H r := by
        unfold zRW
        rw [x5 40 4 rfl (by decide) (by omega), x5 40 2 rfl (by decide) (by omega), x5 40 3 rfl (by decide) (by omega), x5 41 r rfl (by decide) (by omega)]
      have hr2 : 0 ≤ r ∧ r < H2 40 1 := by rw [x5 40 1 rfl (by decide) (by omega)]; exact hr
      refine zclI_mono (K := fun y H3 => y = ((zrtx (zRW H r).1).length : Int) ∧ H3 81 0 = 0 ∧ H3 32 14 = H2 32 14 ∧ zPr 98 81 29 (zrtx (zRW H r).1) H3 ∧ ∀ a j : Int, zrel a j = true → a ≠ 98 → ¬ (a = 81 ∧ j = 29) → H3 a j = H2 a j) (x270_0 (d := 1998) ?_) (fun y H3 q2 => ?_)
      · refine c225 (d := 1993) hMR hD2 (fun _ _ H3 g3 g0 gr => ⟨fun _ => ?_, fun q => absurd q (by decide)⟩) (fun q => absurd q (by decide)) (fun _ q => absurd hr2 q)
        rw [eW] at gr
        refine c270a (d := 1995) hv hok.2.1 hok.1 gr.1 gr.2.2.2 (fun H4 f4 t4 => ⟨t4.1, ?_, ?_, t4, fun a j q q1 q2 => ?_⟩)
        · rw [f4 81 0 (by omega) (by omega) (by omega) (by omega) (by omega)]; exact g0
        · rw [f4 32 14 (by omega) (by omega) (by omega) (by omega) (by omega)]; exact g3.2
        · rw [f4 a j (fun z => by subst z; cases q) (fun z => by subst z; cases q) (fun z => by obtain ⟨rfl, rfl⟩ := z; cases q) q1 q2]
          exact g3.1 a j q
      · obtain ⟨y1, y2, y3, y4, y5⟩ := q2
        have exy : x = y := by rw [x1, y1]
        refine ⟨fun _ => nx H3 ⟨by rw [y3, x2, y2], zAllR_i (H := H) (fun a j q q1 q2 q3 q4 => ?_) (zWlk_f (H := H2) (fun a j q => y5 a j (zrel_o (by omega)) (by omega) (by omega)) x4) ?_ hR.2⟩, fun z => absurd exy z⟩
        · rw [y5 a j (zrel2_1 q) q2 q4]; exact x5 a j q q1 q3
        · have e48 : H3 48 1 = ((zrtx (zRW H r).1).length : Int) := by rw [y5 48 1 rfl (by decide) (by omega)]; exact x3.1
          refine ⟨by rw [e48]; exact y4.1.symm, by rw [e48]; omega, by rw [e48]; omega, fun k k0 k1 => ?_⟩
          rw [e48] at k1
          rw [y5 49 k rfl (by decide) (by omega), zArr_i x3.2 k0 k1, zArr_i y4.2 k0 k1]
  · refine zclI_mono (K := zPC H (2, -1)) (x163_0 (d := 1998) (by
      rw [c106 (by omega), if_neg hr]
      exact ⟨fun q => absurd rfl q, fun _ => zPC_r zcf_rfl rfl⟩)) (fun x H2 q1 => ?_)
    obtain ⟨x1, x2, x3⟩ := q1
    have r2 : zAllR H2 := zAllR_k x2.1 hR.2
    have hr2 : ¬ (0 ≤ r ∧ r < H2 40 1) := by rw [zcf_at x2 (a := 40) (j := 1) rfl]; exact hr
    refine zclI_mono (K := zPM H2 (2, -1)) (x270_0 (d := 1998) ?_) (fun y H3 q2 => ?_)
    · exact c225 (d := 1993) hMR r2.1 (fun _ q => absurd q hr2) (fun q => absurd q (by decide)) (fun _ _ => ⟨fun q => absurd rfl q, fun _ => zPM_n zmf_rfl rfl⟩)
    · obtain ⟨y1, y2, y3⟩ := q2
      have exy : x = y := by rw [x1, y1]
      exact ⟨fun _ => nx H3 ⟨by rw [y2.2, x3, y3], zAllR_k (zRk_of y2.1) r2⟩, fun z => absurd exy z⟩)
end Z65
