/-! the cases retell, drop, follow, trade, rule, undo -/
theorem zset_get {l : List Int} {r k : Nat} {x : Int} (hr : r < l.length) : (l.set r x).getD k 0 = if k = r then x else l.getD k 0 := by
  rw [List.getD_eq_getElem?_getD, List.getElem?_set]
  by_cases h : r = k
  · subst h
    rw [if_pos rfl, if_pos hr, if_pos rfl]; rfl
  · rw [if_neg h, if_neg (fun z => h z.symm), List.getD_eq_getElem?_getD]
theorem zers_get {l : List Int} {r k : Nat} : (l.eraseIdx r).getD k 0 = if k < r then l.getD k 0 else l.getD (k + 1) 0 := by
  rw [List.getD_eq_getElem?_getD, List.getElem?_eraseIdx]
  by_cases h : k < r
  · rw [if_pos h, if_pos h, List.getD_eq_getElem?_getD]
  · rw [if_neg h, if_neg h, List.getD_eq_getElem?_getD]
section Z59
variable {w : zWt} {d : Nat} {H : zHt}
theorem zOkD_set {r : Nat} {n : Int} {D : List Int × Int × Int × Int} (h : zOkD D) (hr : r < D.1.length) (hn : 1 ≤ n ∧ n ≤ 999999999) : zOkD (D.1.set r n, D.2) := by
  obtain ⟨v1, v2, v3⟩ := h
  refine ⟨by show (D.1.set r n).length ≤ 6; rw [List.length_set]; exact v1, fun k hk => ?_, v3⟩
  have hk : k < (D.1.set r n).length := hk
  rw [List.length_set] at hk
  show 1 ≤ (D.1.set r n).getD k 0 ∧ (D.1.set r n).getD k 0 ≤ 999999999
  rw [zset_get hr]
  split
  · exact hn
  · exact v2 k hk
theorem zDeC_set {H1 : zHt} {r : Nat} {n : Int} {D : List Int × Int × Int × Int} (hr : r < D.1.length) (hc : zDeC H1 40 D) : zDeC (zup H1 41 r n) 40 (D.1.set r n, D.2) := by
  obtain ⟨c1, c2, c3, c4, c5⟩ := hc
  refine ⟨?_, ?_, ?_, ?_, fun k hk => ?_⟩
  · rw [zq_ne (by omega)]; show _ = ((D.1.set r n).length : Int); rw [List.length_set]; exact c1
  · rw [zq_ne (by omega)]; exact c2
  · rw [zq_ne (by omega)]; exact c3
  · rw [zq_ne (by omega)]; exact c4
  · have hk : k < (D.1.set r n).length := hk
    rw [List.length_set] at hk
    show zup H1 41 r n 41 k = (D.1.set r n).getD k 0
    rw [zset_get hr]
    by_cases z : k = r
    · subst z; rw [zq_eq, if_pos rfl]
    · rw [zq_ne (by omega), if_neg z]; exact c5 k hk
theorem zDeM_set {H1 : zHt} {r : Nat} {n : Int} {D : List Int × Int × Int × Int} (h6 : D.1.length ≤ 6) (hr : r < D.1.length) (hm : zDeM H1 82 0 D) : zDeM (zup H1 82 r n) 82 0 (D.1.set r n, D.2) := by
  obtain ⟨c1, c2, c3, c4, c5⟩ := hm
  simp only [Int.zero_add] at c1 c2 c3 c4 c5
  refine ⟨?_, ?_, ?_, ?_, fun k hk => ?_⟩
  · rw [Int.zero_add, zq_ne (by omega)]; show _ = ((D.1.set r n).length : Int); rw [List.length_set]; exact c1
  · rw [Int.zero_add, zq_ne (by omega)]; exact c2
  · rw [Int.zero_add, zq_ne (by omega)]; exact c3
  · rw [Int.zero_add, zq_ne (by omega)]; exact c4
  · have hk : k < (D.1.set r n).length := hk
    rw [List.length_set] at hk
    rw [Int.zero_add]
    show _ = (D.1.set r n).getD k 0
    rw [zset_get hr]
    by_cases z : k = r
    · subst z; rw [zq_eq, if_pos rfl]
    · rw [zq_ne (by omega), if_neg z]; exact c5 k hk
theorem zC40 {D : List Int × Int × Int × Int} {L : List (List Int × Int × Int × Int)} (s : zCS H D L) : H 40 1 = D.1.length := s.1.1
theorem zM82 {D : List Int × Int × Int × Int} {L : List (List Int × Int × Int × Int)} (m : zMS H D L) : H 82 6 = D.1.length ∧ H 82 7 = D.2.1 ∧ H 82 8 = D.2.2.1 ∧ H 82 9 = D.2.2.2 ∧ ∀ k : Nat, k < D.1.length → H 82 k = D.1.getD k 0 := by
  have := m.1
  unfold zDeM at this
  simp only [Int.zero_add] at this
  exact this
/-- a row's start set, by the class -/
theorem c156 {r : Nat} {n : Int} {D : List Int × Int × Int × Int} {L : List (List Int × Int × Int × Int)} (hv : zOkA D L) (s : zCS H D L) (hr : r < D.1.length) : ∃ H3, (∀ K : zHt → Prop, zclV w (d + 2) 156 [zR 32, zI r, zI n] H K = K H3) ∧ ∀ x : Int, zQC H (0, x) (D.1.set r n, D.2) (zkpt D L) x (zup H3 32 14 0) := by
  have h6 := hv.1.1
  obtain ⟨H1, ⟨s1, f1⟩, e1⟩ := c153 (w := w) (d := d) hv s
  obtain ⟨H3, f3, e3, -, fin⟩ := zact_d (w := w) (d := d + 1) (H2 := zup H1 41 r n) s1 f1 (fun a j h1 h2 => by rw [zq_ne (by omega)]) (zDeC_set hr s1.1)
  refine ⟨H3, fun K => zclV_eq fun K h => x156_0 ?_, fin⟩
  rw [e1]
  refine ⟨by omega, ?_⟩
  rw [e3]; exact h
/-- the class refuses an act -/
theorem zrefC {A : Int × Int} {D : List Int × Int × Int × Int} {L : List (List Int × Int × Int × Int)} {tc : Nat} {as : List zV} (hW : zWlk H) (s : zCS H D L) (h : zclI w d tc as H (zPC H A)) : zclI w d tc as H (zQC H A D L) := zclI_mono h (fun _ _ p => zQC_of hW s p)
theorem zrefM {A : Int × Int} {D : List Int × Int × Int × Int} {L : List (List Int × Int × Int × Int)} {tc : Nat} {as : List zV} (m : zMS H D L) (h : zclI w d tc as H (zPM H A)) : zclI w d tc as H (zQM H A D L) := zclI_mono h (fun _ _ p => zQM_of m p)
-- retell
theorem l2041 (hw : w.1 ≤ 3072) : zLaw w (zKept zAllR) 2041 := fun H i hi hR K nx => x0_2041 (d := 1999) (by
  refine ⟨zidx hw hi (by decide) (by decide), zidx hw hi (by decide) (by decide), ?_⟩
  generalize zH0 w.2 0 (w32 ((i : Int) + 1)) = r
  generalize zH0 w.2 0 (w32 ((i : Int) + 2)) = n
  refine zcaseA hR (fun D L hv s m => ?_) (fun x y H' hk e => nx H' hk)
  have h8 := s.2.2.1
  have h6 := hv.1.1
  have hW := hR.2.2.2.2.2.2
  have c40 := zC40 s
  by_cases hn : 1 ≤ n ∧ n ≤ 999999999
  · by_cases hr : 0 ≤ r ∧ r < D.1.length
    · obtain ⟨r, rfl⟩ : ∃ k : Nat, r = k := ⟨r.toNat, by omega⟩
      have c41 : H 41 r = D.1.getD r 0 := s.1.2.2.2.2 r (by omega)
      by_cases he : D.1.getD r 0 = n
      · refine ⟨(4, -1), D, L, hv, zrefC hW s (x155_0 (d := 1998) ?_), fun H1 c1 m1 => zrefM m1 (x263_0 (d := 1998) ?_)⟩
        · rw [c43, if_pos hn]
          refine ⟨fun _ => ?_, fun q => absurd q (by decide)⟩
          rw [c106 (by omega), if_pos (by omega)]
          refine ⟨fun _ => ⟨by omega, fun q => ?_, fun _ => zPC_r zcf_rfl rfl⟩, fun q => absurd q (by decide)⟩
          rw [c41] at q; exact absurd he q
        · obtain ⟨m6, -, -, -, mk⟩ := zM82 m1
          rw [c176, if_pos hn]
          refine ⟨fun _ => ?_, fun q => absurd q (by decide)⟩
          rw [c223 (by omega), if_pos (by omega)]
          refine ⟨fun _ => ⟨by omega, fun q => ?_, fun _ => ?_⟩, fun q => absurd q (by decide)⟩
          · rw [mk r (by omega)] at q; exact absurd he q
          · rw [c174_4]; exact ⟨fun q => absurd rfl q, fun _ => zPM_n zmf_rfl rfl⟩
      · refine ⟨(0, D.1.getD r 0), (D.1.set r n, D.2), zkpt D L, zkpt_ok hv (zOkD_set hv.1 (by omega) hn), x155_0 (d := 1998) ?_, fun H1 c1 m1 => x263_0 (d := 1998) ?_⟩
        · obtain ⟨H3, e3, fin⟩ := c156 (w := w) (d := 1996) (n := n) hv s (show r < D.1.length by omega)
          rw [c43, if_pos hn]
          refine ⟨fun _ => ?_, fun q => absurd q (by decide)⟩
          rw [c106 (by omega), if_pos (by omega)]
          refine ⟨fun _ => ⟨by omega, fun _ => ?_, fun q => ?_⟩, fun q => absurd q (by decide)⟩
          · rw [e3, c39, c41]; exact fin _
          · rw [c41] at q; exact absurd q he
        · obtain ⟨m6, -, -, -, mk⟩ := zM82 m1
          obtain ⟨H2, ⟨m2, f2, t2⟩, e2⟩ := c262s (w := w) (d := 1998) hv h8 m1
          obtain ⟨n6, -, -, -, nk⟩ := zM82 m2
          rw [c176, if_pos hn]
          refine ⟨fun _ => ?_, fun q => absurd q (by decide)⟩
          rw [c223 (by omega), if_pos (by omega)]
          refine ⟨fun _ => ⟨by omega, fun _ => ?_, fun q => ?_⟩, fun q => absurd q (by decide)⟩
          · rw [c174_0]
            refine ⟨fun _ => ?_, fun q => absurd q (by decide)⟩
            rw [e2, nk r (by omega)]
            exact ⟨rfl, by rw [zq_ne (by omega)]; exact t2, zmA_82 f2, zMS_82 m2 (fun a j h => by rw [zq_ne (by omega)]) (zDeM_set h6 (by omega) m2.1)⟩
          · rw [mk r (by omega)] at q; exact absurd q he
    · refine ⟨(2, -1), D, L, hv, zrefC hW s (x155_0 (d := 1998) ?_), fun H1 c1 m1 => zrefM m1 (x263_0 (d := 1998) ?_)⟩
      · rw [c43, if_pos hn]
        refine ⟨fun _ => ?_, fun q => absurd q (by decide)⟩
        rw [c106 (by omega), if_neg (by omega)]
        exact ⟨fun q => absurd rfl q, fun _ => zPC_r zcf_rfl rfl⟩
      · obtain ⟨m6, -⟩ := zM82 m1
        rw [c176, if_pos hn]
        refine ⟨fun _ => ?_, fun q => absurd q (by decide)⟩
        rw [c223 (by omega), if_neg (by omega)]
        refine ⟨fun q => absurd rfl q, fun _ => ?_⟩
        rw [c174_2]; exact ⟨fun q => absurd rfl q, fun _ => zPM_n zmf_rfl rfl⟩
  · refine ⟨(1, -1), D, L, hv, zrefC hW s (x155_0 (d := 1998) ?_), fun H1 c1 m1 => zrefM m1 (x263_0 (d := 1998) ?_)⟩
    · rw [c43, if_neg hn]
      exact ⟨fun q => absurd rfl q, fun _ => zPC_r zcf_rfl rfl⟩
    · rw [c176, if_neg hn]
      refine ⟨fun q => absurd rfl q, fun _ => ?_⟩
      rw [c174_1]; exact ⟨fun q => absurd rfl q, fun _ => zPM_n zmf_rfl rfl⟩)
-- follow
theorem zRW_D {D : List Int × Int × Int × Int} {L : List (List Int × Int × Int × Int)} {r : Nat} (s : zCS H D L) (hr : r < D.1.length) : zRW H r = zrow D.2.2.2 D.2.1 D.2.2.1 (D.1.getD r 0) := by
  obtain ⟨c1, c2, c3, c4, c5⟩ := s.1
  unfold zRW
  rw [c2, c3, c4, show H 41 (r : Int) = D.1.getD r 0 from c5 r hr]
theorem l2097 (hw : w.1 ≤ 3072) (hMR : zMR) : zLaw w (zKept zAllR) 2097 := fun H i hi hR K nx => x0_2097 (d := 1999) (by
  refine ⟨zidx hw hi (by decide) (by decide), ?_⟩
  generalize zH0 w.2 0 (w32 ((i : Int) + 1)) = r
  refine zcaseA hR (fun D L hv s m => ?_) (fun x y H' hk e => nx H' hk)
  have h8 := s.2.2.1
  have h6 := hv.1.1
  have hW := hR.2.2.2.2.2.2
  have hD := hR.2.1
  have c40 := zC40 s
  have hD1 : ∀ H1, zcA H H1 → zMS H1 D L → ∀ r : Nat, r < D.1.length → zRowOk (zrow D.2.2.2 D.2.1 D.2.2.1 (D.1.getD r 0)) := fun H1 _ _ r hr => zrow_ok hMR hv.1.2.2.2.2 hv.1.2.2.1.2 hv.1.2.2.2.1.2 (hv.1.2.1 r hr)
  by_cases hr : 0 ≤ r ∧ r < D.1.length
  · obtain ⟨r, rfl⟩ : ∃ k : Nat, r = k := ⟨r.toNat, by omega⟩
    have hrw := zRW_D s (show r < D.1.length by omega)
    have ok : zRowOk (zrow D.2.2.2 D.2.1 D.2.2.1 (D.1.getD r 0)) := zrow_ok hMR hv.1.2.2.2.2 hv.1.2.2.1.2 hv.1.2.2.2.1.2 (hv.1.2.1 r (by omega))
    generalize hR0 : zrow D.2.2.2 D.2.1 D.2.2.1 (D.1.getD r 0) = R at *
    have k1 := ok.1
    have k2 := ok.2.1
    -- the model's row
    have gm : ∀ H1, zMS H1 D L → ∀ P : Int → zHt → Prop, (∀ H2, zmf H1 H2 → H2 81 0 = 0 → zMrow H2 R → P 1 H2) → zclI w 1998 225 [zR 81, zI 1, zI r] H1 P := fun H1 m1 P hP => by
      obtain ⟨m6, m7, m8, m9, mk⟩ := zM82 m1
      refine x225_0 (d := 1997) ?_
      rw [c222 (by omega), if_neg (by decide), if_pos (by omega), c174_0]
      have k82 : ∀ j : Int, zst H1 0 82 j = H1 82 j := fun j => zst_at (by omega)
      obtain ⟨H2, ⟨f2, hm⟩, e2⟩ := c227 (w := w) (d := 1993) (H := zst H1 0) (n := zst H1 0 82 r) (law := zst H1 0 82 9) hMR (by rw [k82, m9]; exact hv.1.2.2.2.2) (by rw [k82, m7]; exact hv.1.2.2.1.2) (by rw [k82, m8]; exact hv.1.2.2.2.1) (by rw [k82, mk r (by omega)]; exact hv.1.2.1 r (by omega))
      rw [k82, k82, k82, k82, m7, m8, m9, mk r (by omega), hR0] at hm
      refine ⟨fun _ => ⟨by omega, x226_0 (d := 1996) ?_⟩, fun q => absurd q (by decide)⟩
      rw [e2]
      exact hP H2 (zmf_gf (zst_f zmf_rfl) f2) (by rw [f2 81 0 (by decide) (by decide) (by decide) (by decide)]; rfl) hm
    by_cases h2 : 2 ≤ R.1.length ∧ ¬ R.1.getD 1 0 = 0
    · have hv1 := ok.2.2.1 1 (by omega)
      refine ⟨(0, R.1.getD 1 0), (D.1.set r (R.1.getD 1 0), D.2), zkpt D L, zkpt_ok hv (zOkD_set hv.1 (by omega) (by omega)), x159_0 (d := 1998) ?_, fun H1 c1 m1 => x265_0 (d := 1998) (gm H1 m1 _ (fun H2 hF hs hm => ?_))⟩
      · rw [c106 (by omega), if_pos (by omega)]
        refine ⟨fun _ => zwalk (d := 1993) hMR hD hW (by omega) (fun o H1 ho _ hF hwk => ?_), fun q => absurd q (by decide)⟩
        rw [hrw] at hwk
        have s1 := zCS_cf hF s
        have e1 : H1 (o + 1) 1 = R.1.getD 1 0 := hwk.2.2.2 1 (by omega)
        obtain ⟨H3, e3, fin⟩ := c156 (w := w) (d := 1996) (n := R.1.getD 1 0) hv s1 (show r < D.1.length by omega)
        refine ⟨fun q => by rw [hwk.1] at q; omega, fun _ => ⟨fun _ => ?_, fun q => by rw [e1] at q; exact absurd q h2.2⟩⟩
        rw [e1, e3, c39]
        obtain ⟨z1, z2, z3, z4, z5⟩ := fin (R.1.getD 1 0)
        exact ⟨z1, z2, zcA_tr (zcA_cf hF) z3, z4, z5⟩
      · obtain ⟨H3, ⟨m3, f3⟩, e3⟩ := c262 (w := w) (d := 1998) (H := H2) hv h8 (zMS_mf hF m1)
        have e94 : H3 94 1 = R.1.getD 1 0 := by rw [f3 94 1 (by omega) (by omega)]; exact hm.2.2.2 1 (by omega)
        refine ⟨fun _ => ⟨fun q => by rw [hm.1] at q; omega, fun _ => ⟨fun _ => ?_, fun q => ?_⟩⟩, fun q => absurd q (by decide)⟩
        · rw [e3, e94, zq_eq]
          exact ⟨by omega, rfl, by rw [zq_ne (by omega), f3 81 0 (by omega) (by omega)]; exact hs, zmA_82 (zmA_tr (zmA_mf hF) (zmA_262 f3)), zMS_82 m3 (fun a j h => by rw [zq_ne (by omega)]) (zDeM_set h6 (by omega) m3.1)⟩
        · exact absurd ((hm.2.2.2 1 (by omega)).symm.trans q) h2.2
    · refine ⟨(5, -1), D, L, hv, zrefC hW s (x159_0 (d := 1998) ?_), fun H1 c1 m1 => zrefM m1 (x265_0 (d := 1998) (gm H1 m1 _ (fun H2 hF hs hm => ?_)))⟩
      · rw [c106 (by omega), if_pos (by omega)]
        refine ⟨fun _ => zwalk (d := 1993) hMR hD hW (by omega) (fun o H1 ho _ hF hwk => ?_), fun q => absurd q (by decide)⟩
        rw [hrw] at hwk
        refine ⟨fun q => zPC_r hF rfl, fun q => ⟨fun q2 => ?_, fun _ => zPC_r hF rfl⟩⟩
        exfalso
        rw [hwk.1] at q
        apply h2
        refine ⟨by omega, fun z => q2 ?_⟩
        rw [show H1 (o + 1) 1 = R.1.getD 1 0 from hwk.2.2.2 1 (by omega)]; exact z
      · refine ⟨fun _ => ⟨fun q => zPM_r hF rfl, fun q => ⟨fun q2 => ?_, fun _ => zPM_r hF rfl⟩⟩, fun q => absurd q (by decide)⟩
        exfalso
        rw [hm.1] at q
        apply h2
        refine ⟨by omega, fun z => q2 ?_⟩
        rw [show H2 94 1 = R.1.getD 1 0 from hm.2.2.2 1 (by omega)]; exact z
  · refine ⟨(2, -1), D, L, hv, zrefC hW s (x159_0 (d := 1998) ?_), fun H1 c1 m1 => zrefM m1 (x265_0 (d := 1998) (x225_0 (d := 1997) ?_))⟩
    · rw [c106 (by omega), if_neg (by omega)]
      exact ⟨fun q => absurd rfl q, fun _ => zPC_r zcf_rfl rfl⟩
    · obtain ⟨m6, -⟩ := zM82 m1
      rw [c222 (by omega), if_neg (by decide), if_neg (by omega), c174_2]
      exact ⟨fun q => absurd rfl q, fun _ => ⟨fun q => absurd rfl q, fun _ => zPM_n zmf_rfl rfl⟩⟩)
end Z59
