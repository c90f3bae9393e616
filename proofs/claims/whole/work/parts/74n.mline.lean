/-! the case load: the model's checks and steps -/
def zfT (H H' : zHt) : Prop := ∀ a j : Int, ¬ (a = 81 ∧ (34 ≤ j ∧ j ≤ 39 ∨ j = 41)) → H' a j = H a j
theorem zfT_rfl {H : zHt} : zfT H H := fun _ _ _ => rfl
theorem zfT_tr {H H1 H2 : zHt} (h1 : zfT H H1) (h2 : zfT H1 H2) : zfT H H2 := fun a j q => (h2 a j q).trans (h1 a j q)
theorem zfT_81 {H H1 : zHt} (h : zf81 H H1) : zfT H H1 := fun a j q => h a j (fun z => q ⟨z.1, by omega⟩)
theorem zfT_up {H0 H : zHt} {j x : Int} (hj : 34 ≤ j ∧ j ≤ 39 ∨ j = 41) (h : zfT H0 H) : zfT H0 (zup H 81 j x) := fun a i q => by
  rw [zq_ne (fun z => q ⟨z.1, by rw [z.2]; exact hj⟩)]; exact h a i q
/-- checks L are done, the TOKEN behind p stands, or the fault is told -/
def zMst (T : Nat → Int) (N : Nat) (L : List (Bool × Nat × Int)) (p : Nat) (H : zHt) : Prop := (∀ c ∈ L, 0 < c.2.2) ∧ (((zfsf T N L).1 = 0 ∧ H 81 34 = 0 ∧ zMt H T N p) ∨ ((zfsf T N L).1 ≠ 0 ∧ H 81 34 = (zfsf T N L).1 ∧ H 81 35 = (zfsf T N L).2))
theorem zfsf_pos {T : Nat → Int} {N : Nat} : ∀ {L : List (Bool × Nat × Int)}, (∀ c ∈ L, 0 < c.2.2) → 0 ≤ (zfsf T N L).1
  | [], _ => Int.le_refl 0
  | a :: l, h => by
    cases ha : a.1 with
    | false =>
      rw [zfsf_f ha]
      have := h a List.mem_cons_self
      show (0 : Int) ≤ if a.2.2 = 2 ∧ zkd T N a.2.1 = 4 then 1 else a.2.2
      split <;> omega
    | true => rw [zfsf_t ha]; exact zfsf_pos (fun c hc => h c (List.mem_cons_of_mem _ hc))
theorem zMst_live {T : Nat → Int} {N p : Nat} {L : List (Bool × Nat × Int)} {H : zHt} (h : zMst T N L p H) : (zfsf T N L).1 = 0 ↔ H 81 34 = 0 := by
  rcases h.2 with ⟨a, b, _⟩ | ⟨a, b, _⟩
  · exact ⟨fun _ => b, fun _ => a⟩
  · exact ⟨fun q => absurd q a, fun q => absurd (b.symm.trans q) a⟩
theorem zMst_tok {T : Nat → Int} {N p : Nat} {L : List (Bool × Nat × Int)} {H : zHt} (h : zMst T N L p H) (hl : (zfsf T N L).1 = 0) : zMt H T N p := by
  rcases h.2 with ⟨_, _, c⟩ | ⟨a, _⟩
  · exact c
  · exact absurd hl a
theorem zMt_f {T : Nat → Int} {N p : Nat} {H H' : zHt} (f : ∀ j : Int, 36 ≤ j → j ≤ 41 → H' 81 j = H 81 j) (h : zMt H T N p) : zMt H' T N p := by
  obtain ⟨h1, h2, h3, h4, h5⟩ := h
  exact ⟨by rw [f 36 (by omega) (by omega)]; exact h1, by rw [f 38 (by omega) (by omega)]; exact h2, fun z => by rw [f 37 (by omega) (by omega)]; exact h3 z, fun z => by rw [f 41 (by omega) (by omega)]; exact h4 z, fun z => by rw [f 39 (by omega) (by omega)]; exact h5 z⟩
theorem zMst_f {T : Nat → Int} {N p : Nat} {L : List (Bool × Nat × Int)} {H H' : zHt} (f : ∀ j : Int, 34 ≤ j → j ≤ 41 → H' 81 j = H 81 j) (h : zMst T N L p H) : zMst T N L p H' := by
  refine ⟨h.1, ?_⟩
  rcases h.2 with ⟨a, b, c⟩ | ⟨a, b, c⟩
  · exact Or.inl ⟨a, by rw [f 34 (by omega) (by omega)]; exact b, zMt_f (fun j j1 j2 => f j (by omega) j2) c⟩
  · exact Or.inr ⟨a, by rw [f 34 (by omega) (by omega)]; exact b, by rw [f 35 (by omega) (by omega)]; exact c⟩
/-- what stays while a text is read -/
def zMc (T : Nat → Int) (N : Nat) (H : zHt) : Prop := zTxM H T N ∧ H 81 40 = (N : Int) ∧ ∀ k : Nat, k < 8 → H 101 k = zkwm.getD k 0
theorem zMc_f {T : Nat → Int} {N : Nat} {H H' : zHt} (f : ∀ a j : Int, a = 99 ∨ a = 101 ∨ (a = 81 ∧ j = 40) → H' a j = H a j) (h : zMc T N H) : zMc T N H' :=
  ⟨⟨h.1.1, fun k hk => by rw [f 99 k (by omega)]; exact h.1.2 k hk⟩, (f 81 40 (by omega)).trans h.2.1, fun k hk => (f 101 k (by omega)).trans (h.2.2 k hk)⟩
theorem zMc_T {T : Nat → Int} {N : Nat} {H H' : zHt} (f : zfT H H') (h : zMc T N H) : zMc T N H' := zMc_f (fun a j q => f a j (by omega)) h
theorem zkw_27 {l : List Int} {k : Nat} (h : zlet l) (hk : k < 8) : zcdw 27 l = zkwm.getD k 0 ↔ zkw l = (k : Int) := by
  obtain rfl | rfl | rfl | rfl | rfl | rfl | rfl | rfl : k = 0 ∨ k = 1 ∨ k = 2 ∨ k = 3 ∨ k = 4 ∨ k = 5 ∨ k = 6 ∨ k = 7 := by omega
  · exact (zW0_27 h).trans zkw_0.symm
  · exact (zW1_27 h).trans zkw_1.symm
  · exact (zW2_27 h).trans zkw_2.symm
  · exact (zW3_27 h).trans zkw_3.symm
  · exact (zW4_27 h).trans zkw_4.symm
  · exact (zW5_27 h).trans zkw_5.symm
  · exact (zW6_27 h).trans zkw_6.symm
  · exact (zW7_27 h).trans zkw_7.symm
section Z74n
variable {w : zWt} {d : Nat} {H : zHt} {T : Nat → Int} {N : Nat} {L : List (Bool × Nat × Int)} {p : Nat}
theorem c280 {K : Int → zHt → Prop} : zclI w d 280 [zR 81] H K = K (if H 81 34 = 0 then 1 else 0) H := zclI_eq fun K h => x280_0 ⟨fun q => by rwa [if_neg q] at h, fun q => by rwa [if_pos q] at h⟩
theorem c284 {a k : Int} {b : Bool} (hs : zMst T N L p H) (hk : 0 < k) (ha : (zfsf T N L).1 = 0 → (a ≠ 0 ↔ b = true)) : ∃ H', (zfT H H' ∧ (∀ j : Int, 36 ≤ j → H' 81 j = H 81 j) ∧ zMst T N (L ++ [(b, p, k)]) p H') ∧ ∀ K : zHt → Prop, zclV w d 284 [zR 81, zI a, zI k] H K = K H' := by
  have hL : ∀ c ∈ L ++ [(b, p, k)], 0 < c.2.2 := fun c hc => by
    rcases List.mem_append.mp hc with z | z
    · exact hs.1 c z
    · rw [List.mem_singleton.mp z]; exact hk
  have hz := zfsf_a (T := T) (N := N) (m := [(b, p, k)]) (l := L) (fun c hc => by have := hs.1 c hc; omega)
  refine zclV_ex ?_
  rcases hs.2 with ⟨h0, h4, ht⟩ | ⟨h0, h4, h5⟩
  · rw [if_pos h0] at hz
    cases hb : b with
    | true =>
      have := (ha h0).mpr hb
      refine x284_0 ⟨fun _ => ⟨zfT_rfl, fun _ _ => rfl, by rw [← hb]; exact hL, Or.inl ⟨?_, h4, ht⟩⟩, fun q => absurd q this⟩
      rw [← hb, hz, zfsf_t (by exact hb)]; rfl
    | false =>
      have a0 : a = 0 := by
        by_cases z : a = 0
        · exact z
        · rw [(ha h0).mp z] at hb; cases hb
      have hz2 := hz.trans (zfsf_f (by exact hb))
      rw [hb] at hz2 hL
      have up : ∀ v : Int, v = (if k = 2 ∧ zkd T N p = 4 then 1 else k) → (fun H' => zfT H H' ∧ (∀ j : Int, 36 ≤ j → H' 81 j = H 81 j) ∧ zMst T N (L ++ [(false, p, k)]) p H') (zup (zup H 81 34 v) 81 35 (H 81 36)) := fun v hv => by
        refine ⟨zfT_up (by omega) (zfT_up (by omega) zfT_rfl), fun j hj => by rw [zq_ne (by omega), zq_ne (by omega)], hL, Or.inr ⟨?_, ?_, ?_⟩⟩
        · rw [hz2]
          show (if k = 2 ∧ zkd T N p = 4 then 1 else k) ≠ (0 : Int)
          split <;> omega
        · rw [zq_ne (by omega), zq_eq, hz2]; exact hv
        · rw [zq_eq, hz2]; exact ht.1
      refine x284_0 ⟨fun q => absurd a0 q, fun _ => ⟨fun _ => ⟨fun q => up k ?_, fun q => ⟨fun q2 => up k ?_, fun q2 => up 1 ?_⟩⟩, fun q => by omega⟩⟩
      · rw [if_neg (fun z => q z.1)]
      · rw [if_neg (fun z => q2 (by rw [ht.2.1]; exact z.2))]
      · rw [if_pos ⟨q, by rw [← ht.2.1]; exact q2⟩]
  · rw [if_neg h0] at hz
    have hpos := zfsf_pos (T := T) (N := N) hs.1
    have st : (fun H' => zfT H H' ∧ (∀ j : Int, 36 ≤ j → H' 81 j = H 81 j) ∧ zMst T N (L ++ [(b, p, k)]) p H') H := ⟨zfT_rfl, fun _ _ => rfl, hL, Or.inr ⟨by rw [hz]; exact h0, by rw [hz]; exact h4, by rw [hz]; exact h5⟩⟩
    exact x284_0 ⟨fun _ => st, fun _ => ⟨fun q => by omega, fun _ => st⟩⟩
theorem c285 (hs : zMst T N L p H) (hl : (zfsf T N L).1 = 0 → zkd T N p ≠ 0) (hp : p ≤ N) (hc : zMc T N H) : ∃ H', (zfT H H' ∧ zMst T N L (znx T N p) H') ∧ ∀ K : zHt → Prop, zclV w (d + 3) 285 [zR 81] H K = K H' := by
  refine zclV_ex (x285_0 ?_)
  rw [c280]
  rcases hs.2 with ⟨h0, h4, ht⟩ | ⟨h0, h4, h5⟩
  · rw [if_pos h4]
    refine ⟨fun q => absurd q (by decide), fun _ => ?_⟩
    obtain ⟨H1, ⟨f, t⟩, e⟩ := c278 (w := w) (d := d) (H := H) (znx_b (T := T) hp).2.1 hc.1 hc.2.1 (ht.2.2.1 (hl h0))
    rw [e]
    exact ⟨zfT_81 f, hs.1, Or.inl ⟨h0, (f 81 34 (by omega)).trans h4, t⟩⟩
  · rw [if_neg (by rw [h4]; exact h0)]
    exact ⟨fun _ => ⟨zfT_rfl, hs.1, Or.inr ⟨h0, h4, h5⟩⟩, fun q => absurd rfl q⟩
theorem c282 {k : Nat} {K : Int → zHt → Prop} (hk : k < 8) (hs : zMst T N L p H) (hp : p ≤ N) (hc : zMc T N H) : zclI w (d + 1) 282 [zR 81, zI k] H K = K (if (zfsf T N L).1 = 0 ∧ zkd T N p = 1 ∧ zkw (zwd T N p) = (k : Int) then 1 else 0) H := zclI_eq fun K hK => x282_0 (by
  rw [c280]
  rcases hs.2 with ⟨h0, h4, ht⟩ | ⟨h0, h4, h5⟩
  · rw [if_pos h4]
    refine ⟨fun q => absurd q (by decide), fun _ => ?_⟩
    rw [ht.2.1]
    refine ⟨fun q => ?_, fun q => ⟨by omega, ?_⟩⟩
    · rwa [if_neg (fun z => q z.2.1)] at hK
    · have hw := zkw_27 (zwd_let (T := T) hp) hk
      rw [ht.2.2.2.1 q, hc.2.2 k hk]
      exact ⟨fun y => by rwa [if_neg (fun z => y (hw.mpr z.2.2))] at hK, fun y => by rwa [if_pos ⟨h0, q, hw.mp y⟩] at hK⟩
  · rw [if_neg (by rw [h4]; exact h0)]
    refine ⟨fun _ => ?_, fun q => absurd rfl q⟩
    rwa [if_neg (fun z => h0 z.1)] at hK)
/-- a number, and on -/
theorem c287 {most : Int} (hs : zMst T N L p H) (hp : p ≤ N) (hc : zMc T N H) : ∃ x H', (zfT H H' ∧ zMst T N (L ++ [(zisNu T N p, p, 2)] ++ [(zrgn T N p most, p, 3)]) (znx T N p) H' ∧ ((zfsf T N (L ++ [(zisNu T N p, p, 2)] ++ [(zrgn T N p most, p, 3)])).1 = 0 → x = znm T N p)) ∧ ∀ K : Int → zHt → Prop, zclI w (d + 4) 287 [zR 81, zI most] H K = K x H' := by
  have hz1 := zfsf_a (T := T) (N := N) (m := [(zisNu T N p, p, 2)]) (l := L) (fun c hc => by have := hs.1 c hc; omega)
  have core : ∀ a : Int, ((zfsf T N L).1 = 0 → (a ≠ 0 ↔ zisNu T N p = true)) → zclV w (d + 3) 284 [zR 81, zI a, zI 2] H (fun H2 => zclI w (d + 3) 173 [zL (H2 81 39), zL 1, zL most] H2 (fun x5 H4 => zclV w (d + 3) 284 [zR 81, zI x5, zI 3] H4 (fun H6 => zclV w (d + 3) 285 [zR 81] H6 (fun H8 => (fun x H' => zfT H H' ∧ zMst T N (L ++ [(zisNu T N p, p, 2)] ++ [(zrgn T N p most, p, 3)]) (znx T N p) H' ∧ ((zfsf T N (L ++ [(zisNu T N p, p, 2)] ++ [(zrgn T N p most, p, 3)])).1 = 0 → x = znm T N p)) (H6 81 39) H8)))) := fun a ha => by
    obtain ⟨H1, ⟨f1, g1, s1⟩, e1⟩ := c284 (w := w) (d := d + 3) (k := 2) (b := zisNu T N p) hs (by decide) ha
    rw [e1, c173]
    have hz2 := zfsf_a (T := T) (N := N) (m := [(zrgn T N p most, p, 3)]) (l := L ++ [(zisNu T N p, p, 2)]) (fun c hc => by have := s1.1 c hc; omega)
    have hnum : (zfsf T N (L ++ [(zisNu T N p, p, 2)])).1 = 0 → zkd T N p = 2 ∧ H1 81 39 = znm T N p := fun h => by
      rw [hz1] at h
      have hk : zkd T N p = 2 := by
        split at h
        · cases hb : zisNu T N p with
          | true => exact of_decide_eq_true hb
          | false =>
            rw [zfsf_f (by exact hb)] at h
            have h : (if (2 : Int) = 2 ∧ zkd T N p = 4 then 1 else 2) = (0 : Int) := h
            split at h <;> omega
        · rename_i z; exact absurd h z
      refine ⟨hk, (zMst_tok s1 (by rw [hz1]; exact h)).2.2.2.2 hk⟩
    obtain ⟨H2, ⟨f2, g2, s2⟩, e2⟩ := c284 (w := w) (d := d + 3) (a := if 1 ≤ H1 81 39 ∧ H1 81 39 ≤ most then 1 else 0) (k := 3) (b := zrgn T N p most) s1 (by decide) (fun h => by
      rw [(hnum h).2]
      by_cases z : 1 ≤ znm T N p ∧ znm T N p ≤ most
      · rw [if_pos z]; exact ⟨fun _ => decide_eq_true z, fun _ => by decide⟩
      · rw [if_neg z]; exact ⟨fun q => absurd rfl q, fun q => absurd (of_decide_eq_true q) z⟩)
    rw [e2]
    have lv : (zfsf T N (L ++ [(zisNu T N p, p, 2)] ++ [(zrgn T N p most, p, 3)])).1 = 0 → (zfsf T N (L ++ [(zisNu T N p, p, 2)])).1 = 0 := fun h => by
      rw [hz2] at h
      split at h
      · assumption
      · exact h
    obtain ⟨H3, ⟨f3, s3⟩, e3⟩ := c285 (w := w) (d := d) s2 (fun h => by rw [(hnum (lv h)).1]; decide) hp (zMc_T f2 (zMc_T f1 hc))
    rw [e3]
    exact ⟨zfT_tr (zfT_tr f1 f2) f3, s3, fun h => (g2 39 (by omega)).trans (hnum (lv h)).2⟩
  refine zclI_ex (x287_0 ⟨fun q => core 0 (fun h => ?_), fun q => core 1 (fun h => ?_)⟩)
  · have := (zMst_tok hs h).2.1
    exact ⟨fun z => absurd rfl z, fun z => absurd (this.trans (of_decide_eq_true z)) q⟩
  · have := (zMst_tok hs h).2.1
    exact ⟨fun _ => decide_eq_true (this.symm.trans q), fun _ => by decide⟩
/-- the sign, and on -/
theorem c28s (hs : zMst T N L p H) (hp : p ≤ N) (hc : zMc T N H) {P : zHt → Prop} (hP : ∀ H', zfT H H' → zMst T N (L ++ [(zisSg T N p, p, 2)]) (znx T N p) H' → P H') : (¬ (H 81 38) = 3 → zclV w (d + 3) 284 [zR 81, zI 0, zI 2] H (fun H2 => zclV w (d + 3) 285 [zR 81] H2 (fun H4 => P H4))) ∧ ((H 81 38) = 3 → zclV w (d + 3) 284 [zR 81, zI 1, zI 2] H (fun H6 => zclV w (d + 3) 285 [zR 81] H6 (fun H8 => P H8))) := by
  have hz := zfsf_a (T := T) (N := N) (m := [(zisSg T N p, p, 2)]) (l := L) (fun c hc => by have := hs.1 c hc; omega)
  have core : ∀ a : Int, ((zfsf T N L).1 = 0 → (a ≠ 0 ↔ zisSg T N p = true)) → zclV w (d + 3) 284 [zR 81, zI a, zI 2] H (fun H2 => zclV w (d + 3) 285 [zR 81] H2 (fun H4 => P H4)) := fun a ha => by
    obtain ⟨H1, ⟨f1, g1, s1⟩, e1⟩ := c284 (w := w) (d := d + 3) (k := 2) (b := zisSg T N p) hs (by decide) ha
    rw [e1]
    obtain ⟨H3, ⟨f3, s3⟩, e3⟩ := c285 (w := w) (d := d) s1 (fun h => by
      rw [hz] at h
      split at h
      · cases hb : zisSg T N p with
        | true => rw [of_decide_eq_true hb]; decide
        | false =>
          rw [zfsf_f (by exact hb)] at h
          have h : (if (2 : Int) = 2 ∧ zkd T N p = 4 then 1 else 2) = (0 : Int) := h
          split at h <;> omega
      · rename_i z; exact absurd h z) hp (zMc_T f1 hc)
    rw [e3]
    exact hP H3 (zfT_tr f1 f3) s3
  refine ⟨fun q => core 0 (fun h => ?_), fun q => core 1 (fun h => ?_)⟩
  · have := (zMst_tok hs h).2.1
    exact ⟨fun z => absurd rfl z, fun z => absurd (this.trans (of_decide_eq_true z)) q⟩
  · have := (zMst_tok hs h).2.1
    exact ⟨fun _ => decide_eq_true (this.symm.trans q), fun _ => by decide⟩
/-- is it a name -/
theorem c286 {K : Int → zHt → Prop} (hs : zMst T N L p H) (hp : p ≤ N) (hc : zMc T N H) : zclI w (d + 1) 286 [zR 81] H K = K (if (zfsf T N L).1 = 0 ∧ zisNm T N p = true then 1 else 0) H := zclI_eq fun K hK => x286_0 (by
  rw [c280]
  rcases hs.2 with ⟨h0, h4, ht⟩ | ⟨h0, h4, h5⟩
  · rw [if_pos h4]
    refine ⟨fun q => absurd q (by decide), fun _ => ?_⟩
    rw [ht.2.1]
    refine ⟨fun q => ?_, fun q => ?_⟩
    · have i := zkw_in (l := zwd T N p)
      have lp : ∀ c k : Nat, k + c = 8 → (∀ i : Nat, i < k → zkw (zwd T N p) ≠ (i : Int)) → zgo w (d + 1) 286 19 [zR 81, zI (k : Int)] [] H (zQI K) := by
        intro c
        induction c with
        | zero =>
          intro k hk hn
          refine x286_19 ⟨fun _ => ?_, fun z => by omega⟩
          have : zkw (zwd T N p) = -1 := by
            rcases i with z | z
            · exact z
            · exact absurd (show zkw (zwd T N p) = ((zkw (zwd T N p)).toNat : Int) by omega) (hn _ (by omega))
          rwa [if_pos ⟨h0, decide_eq_true ⟨q, this⟩⟩] at hK
        | succ c ih =>
          intro k hk hn
          have hw := zkw_27 (zwd_let (T := T) hp) (show k < 8 by omega)
          refine x286_19 ⟨fun z => by omega, fun _ => ⟨by omega, fun z => ?_, fun z => ?_⟩⟩
          · rw [zi1 (by omega)]
            refine ih (k + 1) (by omega) (fun j hj => ?_)
            by_cases y : j = k
            · subst y
              exact fun x => z (by rw [ht.2.2.2.1 q, hc.2.2 j (by omega)]; exact hw.mpr x)
            · exact hn j (by omega)
          · rw [ht.2.2.2.1 q, hc.2.2 k (by omega)] at z
            have := hw.mp z
            rwa [if_neg (fun y => by have := (of_decide_eq_true y.2).2; omega)] at hK
      exact lp 8 0 (by omega) (fun j hj => by omega)
    · rwa [if_neg (fun y => q (of_decide_eq_true y.2).1)] at hK
  · rw [if_neg (by rw [h4]; exact h0)]
    refine ⟨fun _ => ?_, fun q => absurd rfl q⟩
    rwa [if_neg (fun z => h0 z.1)] at hK)
/-- a law, and on -/
theorem c288 (hs : zMst T N L p H) (hp : p ≤ N) (hc : zMc T N H) : ∃ H', ((∀ a j : Int, ¬ (a = 81 ∧ (34 ≤ j ∧ j ≤ 39 ∨ j = 41)) → ¬ (a = 83 ∧ j = 9) → H' a j = H a j) ∧ zMst T N (L ++ [(zisLw T N p, p, 2)]) (znx T N p) H' ∧ ((zfsf T N (L ++ [(zisLw T N p, p, 2)])).1 = 0 → H' 83 9 = zkw (zwd T N p) - 4)) ∧ ∀ K : zHt → Prop, zclV w (d + 4) 288 [zR 81] H K = K H' := by
  have hz := zfsf_a (T := T) (N := N) (m := [(zisLw T N p, p, 2)]) (l := L) (fun c hc => by have := hs.1 c hc; omega)
  have hlw : (zfsf T N (L ++ [(zisLw T N p, p, 2)])).1 = 0 → (zfsf T N L).1 = 0 ∧ zkd T N p = 1 ∧ 4 ≤ zkw (zwd T N p) := fun h => by
    rw [hz] at h
    split at h
    · rename_i z
      cases hb : zisLw T N p with
      | true => exact ⟨z, of_decide_eq_true hb⟩
      | false =>
        rw [zfsf_f (by exact hb)] at h
        have h : (if (2 : Int) = 2 ∧ zkd T N p = 4 then 1 else 2) = (0 : Int) := h
        split at h <;> omega
    · rename_i z; exact absurd h z
  have fin : ∀ (a l : Int), ((zfsf T N L).1 = 0 → (a ≠ 0 ↔ zisLw T N p = true)) → ((zfsf T N L).1 = 0 → zisLw T N p = true → l = zkw (zwd T N p) - 4) → zclV w (d + 3) 284 [zR 81, zI a, zI 2] H (fun H3 => zclV w (d + 3) 285 [zR 81] (zup H3 83 9 l) (fun H5 => (fun H' => (∀ a j : Int, ¬ (a = 81 ∧ (34 ≤ j ∧ j ≤ 39 ∨ j = 41)) → ¬ (a = 83 ∧ j = 9) → H' a j = H a j) ∧ zMst T N (L ++ [(zisLw T N p, p, 2)]) (znx T N p) H' ∧ ((zfsf T N (L ++ [(zisLw T N p, p, 2)])).1 = 0 → H' 83 9 = zkw (zwd T N p) - 4)) H5)) := fun a l ha hl => by
    obtain ⟨H1, ⟨f1, g1, s1⟩, e1⟩ := c284 (w := w) (d := d + 3) (k := 2) (b := zisLw T N p) hs (by decide) ha
    rw [e1]
    obtain ⟨H3, ⟨f3, s3⟩, e3⟩ := c285 (w := w) (d := d) (H := zup H1 83 9 l) (zMst_f (fun j _ _ => zq_ne (by omega)) s1) (fun h => by rw [(hlw h).2.1]; decide) hp (zMc_f (fun a j q => zq_ne (by omega)) (zMc_T f1 hc))
    rw [e3]
    refine ⟨fun b j q q2 => by rw [f3 b j q, zq_ne q2, f1 b j q], s3, fun h => ?_⟩
    rw [f3 83 9 (by omega), zq_eq]
    have := hlw h
    exact hl this.1 (decide_eq_true this.2)
  have i := zkw_in (l := zwd T N p)
  have lp : ∀ (c k : Nat) (l : Int), k + c = 4 → (l = if (zfsf T N L).1 = 0 ∧ zkd T N p = 1 ∧ 4 ≤ zkw (zwd T N p) ∧ zkw (zwd T N p) < 4 + k then zkw (zwd T N p) - 4 else -1) → zgo w (d + 4) 288 4 [zR 81, zI l, zI (k : Int)] [] H (zQV fun H' => (∀ a j : Int, ¬ (a = 81 ∧ (34 ≤ j ∧ j ≤ 39 ∨ j = 41)) → ¬ (a = 83 ∧ j = 9) → H' a j = H a j) ∧ zMst T N (L ++ [(zisLw T N p, p, 2)]) (znx T N p) H' ∧ ((zfsf T N (L ++ [(zisLw T N p, p, 2)])).1 = 0 → H' 83 9 = zkw (zwd T N p) - 4)) := by
    intro c
    induction c with
    | zero =>
      intro k l hk hl
      refine x288_4 ⟨fun _ => ⟨fun q => fin 0 l (fun h => ?_) (fun h hb => ?_), fun q => fin 1 l (fun h => ?_) (fun h hb => ?_)⟩, fun z => by omega⟩
      · refine ⟨fun z => absurd rfl z, fun z => ?_⟩
        have z := of_decide_eq_true z
        rw [if_pos ⟨h, z.1, z.2, by omega⟩] at hl
        omega
      · have z := of_decide_eq_true hb
        rw [if_pos ⟨h, z.1, z.2, by omega⟩] at hl
        exact hl
      · refine ⟨fun _ => ?_, fun _ => by decide⟩
        refine decide_eq_true ?_
        split at hl
        · rename_i z; exact ⟨z.2.1, z.2.2.1⟩
        · omega
      · have z := of_decide_eq_true hb
        rw [if_pos ⟨h, z.1, z.2, by omega⟩] at hl
        exact hl
    | succ c ih =>
      intro k l hk hl
      refine x288_4 ⟨fun z => by omega, fun _ => ?_⟩
      rw [show w32 (4 + (k : Int)) = ((4 + k : Nat) : Int) by rw [w32_id (by omega)]; omega, c282 (by omega) hs hp hc, zi1 (by omega)]
      by_cases z : (zfsf T N L).1 = 0 ∧ zkd T N p = 1 ∧ zkw (zwd T N p) = ((4 + k : Nat) : Int)
      · rw [if_pos z]
        refine ⟨fun q => absurd q (by decide), fun _ => ih (k + 1) k (by omega) ?_⟩
        rw [if_pos ⟨z.1, z.2.1, by omega, by omega⟩]; omega
      · rw [if_neg z]
        refine ⟨fun _ => ih (k + 1) l (by omega) ?_, fun q => absurd rfl q⟩
        rw [hl]
        by_cases y : (zfsf T N L).1 = 0 ∧ zkd T N p = 1 ∧ 4 ≤ zkw (zwd T N p) ∧ zkw (zwd T N p) < 4 + k
        · rw [if_pos y, if_pos ⟨y.1, y.2.1, y.2.2.1, by omega⟩]
        · rw [if_neg y, if_neg]
          intro x
          have : zkw (zwd T N p) ≠ ((4 + k : Nat) : Int) := fun v => z ⟨x.1, x.2.1, v⟩
          exact y ⟨x.1, x.2.1, x.2.2.1, by omega⟩
  exact zclV_ex (x288_0 (lp 4 0 (-1) (by omega) (by rw [if_neg (by omega)])))
end Z74n
