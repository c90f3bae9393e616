/-! the cases drop, trade, rule, undo -/
section Z60
variable {w : zWt} {d : Nat} {H : zHt}
theorem zers_len {l : List Int} {r : Nat} (hr : r < l.length) : (l.eraseIdx r).length = l.length - 1 := by
  rw [List.length_eraseIdx, if_pos hr]
theorem zOkD_ers {r : Nat} {D : List Int × Int × Int × Int} (h : zOkD D) (hr : r < D.1.length) : zOkD (D.1.eraseIdx r, D.2) := by
  obtain ⟨v1, v2, v3⟩ := h
  refine ⟨by show (D.1.eraseIdx r).length ≤ 6; rw [zers_len hr]; omega, fun k hk => ?_, v3⟩
  have hk : k < (D.1.eraseIdx r).length := hk
  rw [zers_len hr] at hk
  show 1 ≤ (D.1.eraseIdx r).getD k 0 ∧ (D.1.eraseIdx r).getD k 0 ≤ 999999999
  rw [zers_get]
  split
  · exact v2 k (by omega)
  · exact v2 (k + 1) (by omega)
theorem c158 {r : Nat} {D : List Int × Int × Int × Int} (h6 : D.1.length ≤ 6) (hr : r < D.1.length) (hc : zDeC H 40 D) : ∃ H', ((∀ a j : Int, a ≠ 40 → a ≠ 41 → H' a j = H a j) ∧ zDeC H' 40 (D.1.eraseIdx r, D.2)) ∧ ∀ K : zHt → Prop, zclV w d 158 [zR 40, zI r] H K = K H' := by
  obtain ⟨c1, c2, c3, c4, c5⟩ := hc
  have L : ∀ (c k : Nat) (H1 : zHt), k + c = D.1.length → r + 1 ≤ k → (∀ a j : Int, a ≠ 41 → H1 a j = H a j) → (∀ j : Nat, j < D.1.length → H1 41 j = if r ≤ j ∧ j + 1 < k then D.1.getD (j + 1) 0 else D.1.getD j 0) → zgo w d 158 4 [zR 40, zJ, zI k] [] H1 (zQV fun H' => (∀ a j : Int, a ≠ 40 → a ≠ 41 → H' a j = H a j) ∧ zDeC H' 40 (D.1.eraseIdx r, D.2)) := by
    intro c
    induction c with
    | zero =>
      intro k H1 hk k1 hF hT
      have e1 : H1 40 1 = D.1.length := by rw [hF 40 1 (by omega)]; exact c1
      refine x158_4 (Or.inl rfl) ⟨fun _ => ?_, fun q => by omega⟩
      rw [e1, show w32 ((D.1.length : Int) - 1) = ((D.1.length - 1 : Nat) : Int) by rw [w32_id (by omega)]; omega]
      refine ⟨fun a j h1 h2 => by rw [zq_ne (by omega)]; exact hF a j h2, ?_, ?_, ?_, ?_, fun j hj => ?_⟩
      · rw [zq_eq]; show _ = ((D.1.eraseIdx r).length : Int); rw [zers_len hr]
      · rw [zq_ne (by omega), hF 40 2 (by omega)]; exact c2
      · rw [zq_ne (by omega), hF 40 3 (by omega)]; exact c3
      · rw [zq_ne (by omega), hF 40 4 (by omega)]; exact c4
      · have hj : j < (D.1.eraseIdx r).length := hj
        rw [zers_len hr] at hj
        show zup H1 40 1 _ 41 j = (D.1.eraseIdx r).getD j 0
        rw [zq_ne (by omega), hT j (by omega), zers_get]
        by_cases z : j < r
        · rw [if_neg (by omega), if_pos z]
        · rw [if_pos (by omega), if_neg z]
    | succ c ih =>
      intro k H1 hk k1 hF hT
      have e1 : H1 40 1 = D.1.length := by rw [hF 40 1 (by omega)]; exact c1
      have ek : w32 ((k : Int) - 1) = ((k - 1 : Nat) : Int) := by rw [w32_id (by omega)]; omega
      refine x158_4 (Or.inl rfl) ⟨fun q => by omega, fun _ => ⟨fun q => by omega, fun _ => ⟨by omega, by rw [ek]; omega, ?_⟩⟩⟩
      rw [ek, show H1 (40 + 1) (k : Int) = D.1.getD k 0 by
        have := hT k (by omega)
        rw [if_neg (by omega)] at this; exact this, zi1 (by omega)]
      refine ih (k + 1) _ (by omega) (by omega) (fun a j q => by rw [zq_ne (by omega)]; exact hF a j q) (fun j hj => ?_)
      by_cases z : j = k - 1
      · subst z
        rw [show ((40 : Int) + 1) = 41 from rfl, zq_eq, if_pos (by omega), show k - 1 + 1 = k by omega]
      · rw [zq_ne (by omega), hT j hj]
        by_cases y : r ≤ j ∧ j + 1 < k
        · rw [if_pos y, if_pos (by omega)]
        · rw [if_neg y, if_neg (by omega)]
  refine zclV_ex (x158_0 (Or.inl rfl) ?_)
  rw [zi1 (by omega)]
  exact L (D.1.length - (r + 1)) (r + 1) H (by omega) (by omega) (fun _ _ _ => rfl) (fun j hj => by rw [if_neg (by omega), show H 41 (j : Int) = D.1.getD j 0 from c5 j hj])
theorem c264l {H0 : zHt} {r n : Nat} {D : List Int × Int × Int × Int} {P : Int → zHt → Prop} (hn : D.1.length = n + 1) (h6 : D.1.length ≤ 6) (hr : r < D.1.length) (hm : zDeM H0 82 0 D) (hP : ∀ H', (∀ a j : Int, a ≠ 82 → H' a j = H0 a j) → zDeM H' 82 0 (D.1.eraseIdx r, D.2) → P (n : Int) H') : ∀ (c k : Nat) (H : zHt), k + c = n → r ≤ k → (∀ a j : Int, ¬ (a = 82 ∧ j ≤ 6) → H a j = H0 a j) → H 82 6 = (n : Int) → (∀ j : Nat, j < D.1.length → H 82 j = if r ≤ j ∧ j < k then D.1.getD (j + 1) 0 else D.1.getD j 0) → zgo w (d + 1) 264 32 [zR 81, zJ, zI k] [] H (zQI P) := by
  obtain ⟨c1, c2, c3, c4, c5⟩ := hm
  simp only [Int.zero_add] at c1 c2 c3 c4 c5
  intro c
  induction c with
  | zero =>
    intro k H hk k1 hF h66 hT
    refine x264_32 ⟨fun _ => ?_, fun q => by omega⟩
    rw [h66]
    refine hP H (fun a j h => hF a j (by omega)) ⟨?_, ?_, ?_, ?_, fun j hj => ?_⟩
    · rw [Int.zero_add, h66]; show _ = ((D.1.eraseIdx r).length : Int); rw [zers_len hr, hn]; rfl
    · rw [Int.zero_add, hF 82 7 (by omega)]; exact c2
    · rw [Int.zero_add, hF 82 8 (by omega)]; exact c3
    · rw [Int.zero_add, hF 82 9 (by omega)]; exact c4
    · have hj : j < (D.1.eraseIdx r).length := hj
      rw [zers_len hr, hn] at hj
      rw [Int.zero_add, hT j (by omega)]
      show _ = (D.1.eraseIdx r).getD j 0
      rw [zers_get]
      by_cases z : j < r
      · rw [if_neg (by omega), if_pos z]
      · rw [if_pos (by omega), if_neg z]
  | succ c ih =>
    intro k H hk k1 hF h66 hT
    clear c1 c2 c3 c4 c5 hP
    have a1 : k + 1 < D.1.length := by omega
    have a2 : ¬ (r ≤ k + 1 ∧ k + 1 < k) := fun q => absurd q.2 (Nat.not_lt.mpr (Nat.le_succ k))
    have e1 : H 82 ((k + 1 : Nat) : Int) = D.1.getD (k + 1) 0 := by rw [hT (k + 1) a1, if_neg a2]
    have ek : w32 ((k : Int) + 1) = ((k + 1 : Nat) : Int) := zi1 (by omega)
    refine x264_32 ⟨fun q => by omega, fun _ => ?_⟩
    rw [ek, e1]
    refine ⟨by omega, by omega, ih (k + 1) _ (by omega) (by omega) (fun a j q => by rw [zq_ne (by omega)]; exact hF a j q) (by rw [zq_ne (by omega)]; exact h66) (fun j hj => ?_)⟩
    by_cases z : j = k
    · subst z; rw [zq_eq, if_pos (by omega)]
    · rw [zq_ne (by omega), hT j hj]
      by_cases y : r ≤ j ∧ j < k
      · rw [if_pos y, if_pos (by omega)]
      · rw [if_neg y, if_neg (by omega)]
-- drop
theorem l2074 (hw : w.1 ≤ 3072) : zLaw w (zKept zAllR) 2074 := fun H i hi hR K nx => x0_2074 (d := 1999) (by
  refine ⟨zidx hw hi (by decide) (by decide), ?_⟩
  generalize zH0 w.2 0 (w32 ((i : Int) + 1)) = r
  refine zcaseA hR (fun D L hv s m => ?_) (fun x y H' hk e => nx H' hk)
  have h8 := s.2.2.1
  have h6 := hv.1.1
  have hW := hR.2.2.2.2.2.2
  have c40 := zC40 s
  by_cases hr : 0 ≤ r ∧ r < D.1.length
  · obtain ⟨r, rfl⟩ : ∃ k : Nat, r = k := ⟨r.toNat, by omega⟩
    refine ⟨(0, ((D.1.length - 1 : Nat) : Int)), (D.1.eraseIdx r, D.2), zkpt D L, zkpt_ok hv (zOkD_ers hv.1 (by omega)), x157_0 (d := 1998) ?_, fun H1 c1 m1 => x264_0 (d := 1998) ?_⟩
    · obtain ⟨H1, ⟨s1, f1⟩, e1⟩ := c153 (w := w) (d := 1997) hv s
      obtain ⟨H2, ⟨f2, d2⟩, e2⟩ := c158 (w := w) (d := 1998) h6 (show r < D.1.length by omega) s1.1
      obtain ⟨H3, f3, e3, -, fin⟩ := zact_d (w := w) (d := 1998) s1 f1 f2 d2
      rw [c106 (by omega), if_pos (by omega)]
      refine ⟨fun _ => ?_, fun q => absurd q (by decide)⟩
      rw [e1, e2, e3, c39, f3 40 1 (by omega), d2.1, zers_len (show r < D.1.length by omega)]
      exact fin _
    · obtain ⟨m6, -⟩ := zM82 m1
      obtain ⟨H2, ⟨m2, f2, t2⟩, e2⟩ := c262s (w := w) (d := 1998) hv h8 m1
      obtain ⟨n6, -, -, -, nk⟩ := zM82 m2
      rw [c222 (by omega), if_neg (by decide), if_pos (by omega), c174_0]
      refine ⟨fun _ => ?_, fun q => absurd q (by decide)⟩
      rw [e2, n6, show w32 ((D.1.length : Int) - 1) = ((D.1.length - 1 : Nat) : Int) by rw [w32_id (by omega)]; omega]
      refine c264l (d := 1998) (H0 := H2) (n := D.1.length - 1) (by omega) h6 (show r < D.1.length by omega) m2.1 (fun H' g1 g2 => ⟨rfl, by rw [g1 81 0 (by omega)]; exact t2, zmA_tr f2 (fun a j q => g1 a j (fun z => by subst z; cases q)), zMS_82 m2 g1 g2⟩) (D.1.length - 1 - r) r _ (by omega) (Nat.le_refl _) (fun a j q => by rw [zq_ne (by omega)]) zq_eq (fun j hj => ?_)
      rw [zq_ne (by omega), if_neg (by omega)]; exact nk j hj
  · refine ⟨(2, -1), D, L, hv, zrefC hW s (x157_0 (d := 1998) ?_), fun H1 c1 m1 => zrefM m1 (x264_0 (d := 1998) ?_)⟩
    · rw [c106 (by omega), if_neg (by omega)]
      exact ⟨fun q => absurd rfl q, fun _ => zPC_r zcf_rfl rfl⟩
    · obtain ⟨m6, -⟩ := zM82 m1
      rw [c222 (by omega), if_neg (by decide), if_neg (by omega), c174_2]
      exact ⟨fun q => absurd rfl q, fun _ => zPM_n zmf_rfl rfl⟩)
-- trade
theorem l2120 (hw : w.1 ≤ 3072) (hMR : zMR) : zLaw w (zKept zAllR) 2120 := fun H i hi hR K nx => x0_2120 (d := 1999) (by
  refine ⟨zidx hw hi (by decide) (by decide), zidx hw hi (by decide) (by decide), ?_⟩
  generalize zH0 w.2 0 (w32 ((i : Int) + 1)) = r
  generalize zH0 w.2 0 (w32 ((i : Int) + 2)) = o
  refine zcaseA hR (fun D L hv s m => ?_) (fun x y H' hk e => nx H' hk)
  have h8 := s.2.2.1
  have h6 := hv.1.1
  have hW := hR.2.2.2.2.2.2
  have c40 := zC40 s
  by_cases hr : 0 ≤ r ∧ r < D.1.length
  · by_cases ho : 0 ≤ o ∧ o < D.1.length
    · by_cases he : r = o
      · refine ⟨(4, -1), D, L, hv, zrefC hW s (x160_0 (d := 1998) ?_), fun H1 c1 m1 => zrefM m1 (x266_0 (d := 1998) ?_)⟩
        · rw [c106 (by omega), if_pos (by omega)]
          refine ⟨fun q => absurd q (by decide), fun _ => ?_⟩
          rw [c106 (by omega), if_pos (by omega)]
          exact ⟨fun _ => ⟨fun q => absurd he q, fun _ => zPC_r zcf_rfl rfl⟩, fun q => absurd q (by decide)⟩
        · obtain ⟨m6, -⟩ := zM82 m1
          rw [c223 (by omega), if_pos (by omega)]
          refine ⟨fun q => absurd q (by decide), fun _ => ?_⟩
          rw [c223 (by omega), if_pos (by omega)]
          refine ⟨fun _ => ⟨fun q => absurd he q, fun _ => x266_31 ?_⟩, fun q => absurd q (by decide)⟩
          rw [c174_4]; exact ⟨fun q => absurd rfl q, fun _ => zPM_n zmf_rfl rfl⟩
      · obtain ⟨r, rfl⟩ : ∃ k : Nat, r = k := ⟨r.toNat, by omega⟩
        obtain ⟨o, rfl⟩ : ∃ k : Nat, o = k := ⟨o.toNat, by omega⟩
        have vr := hv.1.2.1 r (by omega)
        have vo := hv.1.2.1 o (by omega)
        have ok1 : zOkD (D.1.set r (D.1.getD o 0), D.2) := zOkD_set hv.1 (by omega) vo
        have hl1 : (D.1.set r (D.1.getD o 0)).length = D.1.length := List.length_set
        have ok2 : zOkD ((D.1.set r (D.1.getD o 0)).set o (D.1.getD r 0), D.2) := zOkD_set ok1 (show o < (D.1.set r (D.1.getD o 0)).length by rw [hl1]; omega) vr
        have g2 : ((D.1.set r (D.1.getD o 0)).set o (D.1.getD r 0)).getD r 0 = D.1.getD o 0 := by
          rw [zset_get (show o < (D.1.set r (D.1.getD o 0)).length by rw [hl1]; omega), if_neg (by omega), zset_get (by omega), if_pos rfl]
        refine ⟨(0, ((zrow D.2.2.2 D.2.1 D.2.2.1 (D.1.getD o 0)).1.length : Int)), ((D.1.set r (D.1.getD o 0)).set o (D.1.getD r 0), D.2), zkpt D L, zkpt_ok hv ok2, x160_0 (d := 1998) ?_, fun H1 c1 m1 => x266_0 (d := 1998) ?_⟩
        · obtain ⟨H1, ⟨s1, f1⟩, e1⟩ := c153 (w := w) (d := 1997) hv s
          have g41 : ∀ k : Nat, k < D.1.length → H1 41 k = D.1.getD k 0 := fun k hk => s1.1.2.2.2.2 k hk
          have d2 : zDeC (zup (zup H1 41 r (D.1.getD o 0)) 41 o (D.1.getD r 0)) 40 ((D.1.set r (D.1.getD o 0)).set o (D.1.getD r 0), D.2) := zDeC_set (D := (D.1.set r (D.1.getD o 0), D.2)) (show o < (D.1.set r (D.1.getD o 0)).length by rw [hl1]; omega) (zDeC_set (by omega) s1.1)
          obtain ⟨H3, f3, e3, t3, fin⟩ := zact_d (w := w) (d := 1998) s1 f1 (fun a j h1 h2 => by rw [zq_ne (by omega), zq_ne (by omega)]) d2
          have q3 : ∀ j, H3 40 j = zup (zup H1 41 r (D.1.getD o 0)) 41 o (D.1.getD r 0) 40 j := fun j => f3 40 j (by omega)
          obtain ⟨k1, k2, k3, k4, k5⟩ := d2
          have b41 : H3 41 r = D.1.getD o 0 := by
            have hk5 := k5 r (by show r < ((D.1.set r (D.1.getD o 0)).set o (D.1.getD r 0)).length; rw [List.length_set, hl1]; omega)
            rw [f3 41 r (by omega)]
            exact hk5.trans g2
          obtain ⟨H4, ⟨f4, t4, w4⟩, e4⟩ := c109 (w := w) (d := 1993) (H := H3) (o := 69 + 2 * r) (n := H3 41 r) (law := H3 40 4) hMR (zisW_r (by omega)) (by rw [q3, k4]; exact hv.1.2.2.2.2) (by rw [q3, k2]; exact hv.1.2.2.1.2) (by rw [q3, k3]; exact hv.1.2.2.2.1) (by rw [b41]; exact vo)
          rw [b41, q3, q3, q3, k2, k3, k4] at w4
          rw [c106 (by omega), if_pos (by omega)]
          refine ⟨fun q => absurd q (by decide), fun _ => ?_⟩
          rw [c106 (by omega), if_pos (by omega)]
          refine ⟨fun _ => ⟨fun _ => ?_, fun q => absurd q he⟩, fun q => absurd q (by decide)⟩
          rw [e1, g41 r (by omega), g41 o (by omega), e3]
          refine ⟨by omega, by omega, x108_0 (d := 1997) ⟨by omega, fun q => absurd (t3 r (by omega)) q, fun _ => ?_⟩⟩
          rw [e4]
          refine ⟨zisW_r (by omega), ?_⟩
          rw [c39, w4.1]
          obtain ⟨z1, z2, z3, z4, z5⟩ := fin ((zrow D.2.2.2 D.2.1 D.2.2.1 (D.1.getD o 0)).1.length : Int)
          have fr : ∀ a j : Int, a ≠ 37 → a ≠ 38 → ¬ (a = 36 ∧ j = 3) → ¬ (69 ≤ a ∧ a ≤ 80) → zup H4 32 14 0 a j = zup H3 32 14 0 a j := fun a j h1 h2 h3 h4 => by
            by_cases y : a = 32 ∧ j = 14
            · obtain ⟨rfl, rfl⟩ := y; rw [zq_eq, zq_eq]
            · rw [zq_ne y, zq_ne y]; exact f4 a j h1 h2 h3 (by omega) (by omega)
          refine ⟨rfl, zq_eq, zcA_tr z3 (fun a j q => fr a j (fun y => by subst y; cases q) (fun y => by subst y; cases q) (fun y => by obtain ⟨rfl, rfl⟩ := y; cases q) (fun y => ?_)), fun q q5 q1 q2 => ?_, zCS_k (H := zup H3 32 14 0) (zDeC_k (H := zup H3 32 14 0) (fun j => fr 40 j (by omega) (by omega) (by omega) (by omega)) (fun j => fr _ j (by omega) (by omega) (by omega) (by omega)) z5.1) (fun a j h => fr a j (by omega) (by omega) (by omega) (by omega)) z5⟩
          · unfold zrelA at q
            simp only [Bool.or_eq_true, Bool.and_eq_true, beq_iff_eq] at q
            omega
          · have u40 : ∀ j, zup H4 32 14 0 40 j = H3 40 j := fun j => by rw [zq_ne (by omega)]; exact f4 40 j (by omega) (by omega) (by omega) (by omega) (by omega)
            have u41 : ∀ j, zup H4 32 14 0 41 j = H3 41 j := fun j => by rw [zq_ne (by omega)]; exact f4 41 j (by omega) (by omega) (by omega) (by omega) (by omega)
            rw [zq_ne (by omega)] at q2
            by_cases y : q = r
            · subst y
              rw [u40, u40, u40, u41, b41, q3, q3, q3, k2, k3, k4]
              exact ⟨by rw [zq_ne (by omega)]; exact w4.1, by rw [zq_ne (by omega)]; exact w4.2.1, by rw [zq_ne (by omega)]; exact w4.2.2.1, zArr_eq (fun k _ => by rw [zq_ne (by omega)]) w4.2.2.2⟩
            · rw [f4 _ 4 (by omega) (by omega) (by omega) (by omega) (by omega)] at q2
              exact absurd (t3 q q5) q2
        · obtain ⟨m6, -⟩ := zM82 m1
          obtain ⟨H2, ⟨m2, f2, t2⟩, e2⟩ := c262s (w := w) (d := 1998) hv h8 m1
          obtain ⟨n6, n7, n8, n9, nk⟩ := zM82 m2
          have m3 := zDeM_set (D := (D.1.set r (D.1.getD o 0), D.2)) (n := D.1.getD r 0) (show (D.1.set r (D.1.getD o 0)).length ≤ 6 by rw [hl1]; exact h6) (show o < (D.1.set r (D.1.getD o 0)).length by rw [hl1]; omega) (zDeM_set (n := D.1.getD o 0) h6 (show r < D.1.length by omega) m2.1)
          have hr3 : zup (zup H2 82 r (D.1.getD o 0)) 82 o (D.1.getD r 0) 82 r = D.1.getD o 0 := by rw [zq_ne (by omega), zq_eq]
          have q82 : ∀ j : Int, 7 ≤ j → zup (zup H2 82 r (D.1.getD o 0)) 82 o (D.1.getD r 0) 82 j = H2 82 j := fun j hj => by rw [zq_ne (by omega), zq_ne (by omega)]
          obtain ⟨H4, ⟨f4, w4⟩, e4⟩ := c227 (w := w) (d := 1994) (H := zup (zup H2 82 r (D.1.getD o 0)) 82 o (D.1.getD r 0)) (n := D.1.getD o 0) (law := D.2.2.2) hMR hv.1.2.2.2.2 (by rw [q82 7 (by omega), n7]; exact hv.1.2.2.1.2) (by rw [q82 8 (by omega), n8]; exact hv.1.2.2.2.1) vo
          rw [q82 7 (by omega), q82 8 (by omega), n7, n8] at w4
          rw [c223 (by omega), if_pos (by omega)]
          refine ⟨fun q => absurd q (by decide), fun _ => ?_⟩
          rw [c223 (by omega), if_pos (by omega)]
          refine ⟨fun _ => ⟨fun _ => x266_31 ?_, fun q => absurd q he⟩, fun q => absurd q (by decide)⟩
          rw [c174_0]
          refine ⟨fun _ => ?_, fun q => absurd q (by decide)⟩
          rw [e2, nk r (by omega), nk o (by omega), hr3]
          refine ⟨by omega, by omega, x226_0 (d := 1997) ?_⟩
          rw [q82 9 (by omega), n9, e4, w4.1]
          have mf4 : zmf (zup (zup H2 82 r (D.1.getD o 0)) 82 o (D.1.getD r 0)) H4 := ⟨zgf_keep f4, f4 32 14 (by decide) (by decide) (by decide) (by decide)⟩
          refine ⟨rfl, ?_, zmA_tr (zmA_82 (zmA_82 f2)) (zmA_mf mf4), zMS_mf mf4 (zMS_82 m2 (fun a j h => by rw [zq_ne (by omega), zq_ne (by omega)]) m3)⟩
          rw [f4 81 0 (by decide) (by decide) (by decide) (by decide), zq_ne (by omega), zq_ne (by omega)]; exact t2
    · refine ⟨(2, -1), D, L, hv, zrefC hW s (x160_0 (d := 1998) ?_), fun H1 c1 m1 => zrefM m1 (x266_0 (d := 1998) ?_)⟩
      · rw [c106 (by omega), if_pos (by omega)]
        refine ⟨fun q => absurd q (by decide), fun _ => ?_⟩
        rw [c106 (by omega), if_neg (by omega)]
        exact ⟨fun q => absurd rfl q, fun _ => zPC_r zcf_rfl rfl⟩
      · obtain ⟨m6, -⟩ := zM82 m1
        rw [c223 (by omega), if_pos (by omega)]
        refine ⟨fun q => absurd q (by decide), fun _ => ?_⟩
        rw [c223 (by omega), if_neg (by omega)]
        refine ⟨fun q => absurd rfl q, fun _ => x266_31 ?_⟩
        rw [c174_2]; exact ⟨fun q => absurd rfl q, fun _ => zPM_n zmf_rfl rfl⟩
  · refine ⟨(2, -1), D, L, hv, zrefC hW s (x160_0 (d := 1998) ?_), fun H1 c1 m1 => zrefM m1 (x266_0 (d := 1998) ?_)⟩
    · rw [c106 (by omega), if_neg (by omega)]
      exact ⟨fun _ => zPC_r zcf_rfl rfl, fun q => absurd rfl q⟩
    · obtain ⟨m6, -⟩ := zM82 m1
      rw [c223 (by omega), if_neg (by omega)]
      refine ⟨fun _ => x266_31 ?_, fun q => absurd rfl q⟩
      rw [c174_2]; exact ⟨fun q => absurd rfl q, fun _ => zPM_n zmf_rfl rfl⟩)
-- undo
theorem l2232 (hw : w.1 ≤ 3072) : zLaw w (zKept zAllR) 2232 := fun H i hi hR K nx => x0_2232 (d := 1999) (by
  refine zcaseA hR (fun D L hv s m => ?_) (fun x y H' hk e => nx H' hk)
  have h8 := s.2.2.1
  have hW := hR.2.2.2.2.2.2
  obtain ⟨s1, s2, s3, s4, s5, s6⟩ := s
  have s : zCS H D L := ⟨s1, s2, s3, s4, s5, s6⟩
  by_cases h0 : L.length = 0
  · refine ⟨(5, -1), D, L, hv, zrefC hW s (x169_0 (d := 1998) ?_), fun H1 c1 m1 => zrefM m1 (x269_0 (d := 1998) ?_)⟩
    · exact ⟨fun _ => zPC_r zcf_rfl rfl, fun q => by omega⟩
    · have m5 := m1.2.1
      refine ⟨fun q => by omega, fun _ => ?_⟩
      rw [c174_5]; exact ⟨fun q => absurd rfl q, fun _ => zPM_n zmf_rfl rfl⟩
  · obtain ⟨M, E, rfl⟩ : ∃ M E, L = M ++ [E] := by
      have hne : L ≠ [] := fun z => h0 (by rw [z]; rfl)
      exact ⟨L.dropLast, L.getLast hne, (List.dropLast_concat_getLast hne).symm⟩
    have hl : (M ++ [E]).length = M.length + 1 := by rw [List.length_append]; rfl
    have hE : (M ++ [E])[M.length]? = some E := by rw [List.getElem?_append_right (Nat.le_refl _), Nat.sub_self]; rfl
    have hM : ∀ (i : Nat) (F : List Int × Int × Int × Int), M[i]? = some F → (M ++ [E])[i]? = some F := fun i F hF => by
      have : i < M.length := by
        rcases Nat.lt_or_ge i M.length with z | z
        · exact z
        · rw [List.getElem?_eq_none z] at hF; cases hF
      rw [List.getElem?_append_left this]; exact hF
    have hvE : zOkD E := hv.2 E (by simp)
    refine ⟨(0, (M.length : Int)), E, M, ⟨hvE, fun F hF => hv.2 F (by simp [hF])⟩, x169_0 (d := 1998) ?_, fun H1 c1 m1 => x269_0 (d := 1998) ?_⟩
    · obtain ⟨j, j1, j2⟩ := s4 M.length (by omega)
      have e11 : w32 (H 32 11 - 1) = (M.length : Int) := by rw [s2, hl, w32_id (by omega)]; omega
      refine ⟨fun q => by omega, fun _ => ⟨fun _ => ?_, fun q => by omega⟩⟩
      rw [e11, show zup H 32 11 (M.length : Int) 44 (M.length : Int) = 53 + 2 * (j : Int) by rw [zq_ne (by omega)]; exact j2]
      obtain ⟨H2, ⟨f2, a2⟩, e2⟩ := c37 (w := w) (d := 1998) (H := zup H 32 11 (M.length : Int)) (o := 40) (p := 53 + 2 * (j : Int)) (Or.inl rfl) (zisD_a j1) (by omega)
      obtain ⟨H3, ⟨f3, t3⟩, e3⟩ := c38 (w := w) (d := 1998) (H := H2)
      refine ⟨by omega, zisD_a j1, ?_⟩
      have dE : zDeC H2 40 E := by
        refine zDeC_cp hvE.1 a2 ?_
        have := s6 M.length E hE
        rw [j2] at this
        exact zDeC_k (fun q => by rw [zq_ne (by omega)]) (fun q => by rw [zq_ne (by omega)]) this
      have g3 : ∀ a q : Int, a ≠ 40 → a ≠ 41 → ¬ (a = 32 ∧ q = 11) → ¬ (69 ≤ a ∧ a ≤ 80) → H3 a q = H a q := fun a q h1 h2 h3 h4 => by
        rw [f3 a q (by omega), f2 a q (by omega) (by omega), zq_ne (by omega)]
      have e113 : H3 32 11 = M.length := by rw [f3 32 11 (by omega), f2 32 11 (by omega) (by omega), zq_eq]
      rw [e2, e3, c39, e113]
      refine ⟨rfl, zq_eq, zcA_aw (fun a q h1 h2 h3 h4 h5 => ?_), zWlk_0 (fun r hr => by rw [zq_ne (by omega)]; exact t3 r hr), zDeC_k (H := H2) (fun q => by rw [zq_ne (by omega), f3 40 q (by omega)]) (fun q => by rw [zq_ne (by omega), f3 _ q (by omega)]) dE, by rw [zq_ne (by omega)]; exact e113, by omega, fun i hi => ?_, fun i k hi hk e => ?_, fun i F hF => ?_⟩
      · rw [zq_ne (by omega)]; exact g3 a q h1 h2 (by omega) (by omega)
      · rw [zq_ne (by omega), g3 44 i (by omega) (by omega) (by omega) (by omega)]; exact s4 i hi
      · rw [zq_ne (by omega), zq_ne (by omega), g3 44 i (by omega) (by omega) (by omega) (by omega), g3 44 k (by omega) (by omega) (by omega) (by omega)] at e
        exact s5 i k hi hk e
      · have hi : i < M.length := by
          rcases Nat.lt_or_ge i M.length with z | z
          · exact z
          · rw [List.getElem?_eq_none z] at hF; cases hF
        obtain ⟨k, k1, k2⟩ := s4 i (by omega)
        rw [zq_ne (by omega), g3 44 i (by omega) (by omega) (by omega) (by omega)]
        exact zDeC_k (fun q => by rw [zq_ne (by omega)]; exact g3 _ q (by omega) (by omega) (by omega) (by omega)) (fun q => by rw [zq_ne (by omega)]; exact g3 _ q (by omega) (by omega) (by omega) (by omega)) (s6 i F (hM i F hF))
    · obtain ⟨m1a, m5, m3⟩ := m1
      have b5 : w32 (zst H1 0 81 5 - 1) = (M.length : Int) := by rw [zst_at (by omega), m5, hl, w32_id (by omega)]; omega
      refine ⟨fun _ => ?_, fun q => by omega⟩
      rw [c174_0]
      refine ⟨fun _ => ?_, fun q => absurd q (by decide)⟩
      rw [b5]
      have Lp : ∀ (c k : Nat) (H2 : zHt), k + c = 10 → (∀ a j : Int, a ≠ 82 → H2 a j = zup (zst H1 0) 81 5 (M.length : Int) a j) → (∀ j : Nat, j < k → H2 82 j = H1 84 (10 * (M.length : Int) + j)) → zgo w 1999 269 33 [zR 81, zI k] [] H2 (zQI (zQM H1 (0, (M.length : Int)) E M)) := by
        intro c
        induction c with
        | zero =>
          intro k H2 hk hF hT
          have h5 : H2 81 5 = M.length := by rw [hF 81 5 (by omega), zq_eq]
          have h84 : ∀ j, H2 84 j = H1 84 j := fun j => by rw [hF 84 j (by omega), zq_ne (by omega), zst_at (by omega)]
          refine x269_33 (d := 1998) ⟨fun _ => ?_, fun q => by omega⟩
          rw [h5]
          have hT' : ∀ j : Int, 0 ≤ j → j < 10 → H2 82 j = H1 84 (10 * (M.length : Int) + j) := fun j j0 j9 => by
            have := hT j.toNat (by omega)
            rw [Int.toNat_of_nonneg j0] at this
            exact this
          refine ⟨rfl, ?_, fun a j q => ?_, ?_, h5, fun i F hF2 => ?_⟩
          · rw [hF 81 0 (by omega), zq_ne (by omega)]; rfl
          · rw [hF a j (fun z => by subst z; cases q), zq_ne (fun z => by obtain ⟨rfl, rfl⟩ := z; cases q)]
            exact zmA_mf (zst_f zmf_rfl) a j q
          · have := m3 M.length E hE
            obtain ⟨x1, x2, x3, x4, x5⟩ := this
            have e6 := hvE.1
            refine ⟨?_, ?_, ?_, ?_, fun q hq => ?_⟩
            · rw [Int.zero_add, hT' 6 (by omega) (by omega)]; exact x1
            · rw [Int.zero_add, hT' 7 (by omega) (by omega)]; exact x2
            · rw [Int.zero_add, hT' 8 (by omega) (by omega)]; exact x3
            · rw [Int.zero_add, hT' 9 (by omega) (by omega)]; exact x4
            · rw [Int.zero_add, hT' q (by omega) (by omega)]; exact x5 q hq
          · have := m3 i F (hM i F hF2)
            unfold zDeM at this ⊢
            simp only [h84]
            exact this
        | succ c ih =>
          intro k H2 hk hF hT
          have h5 : H2 81 5 = M.length := by rw [hF 81 5 (by omega), zq_eq]
          have h84 : ∀ j, H2 84 j = H1 84 j := fun j => by rw [hF 84 j (by omega), zq_ne (by omega), zst_at (by omega)]
          refine x269_33 (d := 1998) ⟨fun q => by omega, fun _ => ?_⟩
          rw [h5, show w32 (w32 (10 * (M.length : Int)) + (k : Int)) = 10 * (M.length : Int) + k by rw [w32_id (show _ ≤ 10 * (M.length : Int) ∧ _ by omega), w32_id (by omega)], zi1 (by omega), h84]
          refine ⟨by omega, by omega, ih (k + 1) _ (by omega) (fun a j q => by rw [zq_ne (by omega)]; exact hF a j q) (fun j hj => ?_)⟩
          by_cases z : j = k
          · subst z; rw [zq_eq]
          · rw [zq_ne (by omega)]; exact hT j (by omega)
      exact Lp 10 0 _ (by omega) (fun _ _ _ => rfl) (fun j hj => by omega))
end Z60
