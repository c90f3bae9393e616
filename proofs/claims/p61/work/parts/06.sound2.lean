/-! arithmetic, branches, switches -/
def zI32 (a : Nat) : Option Instr := match a with
  | 0 => some .iadd
  | 1 => some .isub
  | 2 => some .imul
  | 3 => some .iand
  | 4 => some .ior
  | 6 => some .idiv
  | 7 => some .irem
  | 8 => some .ishl
  | 9 => some .ishr
  | 10 => some .iushr
  | _ => none
def zI64 (a : Nat) : Option Instr := match a with
  | 0 => some .ladd
  | 1 => some .lsub
  | 2 => some .lmul
  | 3 => some .land
  | 4 => some .lor
  | 6 => some .ldiv
  | 7 => some .lrem
  | _ => none
def zdo (y pc : Nat) (I : Option Instr) (len : Nat) : Bool := match I with
  | some I => zdc y pc I len
  | none => false
def zc_iar : zChk := fun y pc i => i.2.1 == 1 && zdo y pc (zI32 i.2.2.1) 1
theorem zp_iar : zSound (zs_iar, zc_iar) := by
  intro G y p l e R s m args below meth c H locs Q n0 m0 nF mF cx hRc hRs hRf hRl i pc ls st S lm pc' ls' st' S' hc hs hat hn0 hm0 hnF hmF kk
  obtain ⟨hx, hb, hml, hown, hts, hfix, -⟩ := cx
  obtain ⟨op, len, a, b, k, ex⟩ := i
  unfold zs_iar at hs
  dsimp only at hs
  simp only [zc_iar, Bool.and_eq_true, beq_iff_eq] at hc
  obtain ⟨rfl, hc⟩ := hc
  split at hs
  · rename_i yv xv st1
    have hwy := (zwf_hd hat.2.2.2.2.2).1 rfl
    have hwx := (zwf_hd (zwf_tl hat.2.2.2.2.2)).1 rfl
    have hwt := zwf_tl (zwf_tl hat.2.2.2.2.2)
    simp only [Option.map_eq_some_iff] at hs
    obtain ⟨r, hr, hs⟩ := hs
    cases hs
    have K := fun hr => kk H locs lm (hat.st (zwf_cons (zwfI (x := r) hr) hwt))
    unfold zIar at hr
    split at hr
    · cases hr
      refine lv_iadd hx hb (zdc_eq hc) ?_
      have K := K (w32_r _)
      rw [List.map_cons, show zcv G (zI (w32 (xv + yv))) = .int (Int32.ofInt (w32 (xv + yv))) from rfl, w32_of, Int32.ofInt_add] at K
      exact K
    · cases hr
      refine lv_isub hx hb (zdc_eq hc) ?_
      have K := K (w32_r _)
      rw [List.map_cons, show zcv G (zI (w32 (xv - yv))) = .int (Int32.ofInt (w32 (xv - yv))) from rfl, w32_of, Int32.ofInt_sub] at K
      exact K
    · cases hr
      refine lv_imul hx hb (zdc_eq hc) ?_
      have K := K (w32_r _)
      rw [List.map_cons, show zcv G (zI (w32 (xv * yv))) = .int (Int32.ofInt (w32 (xv * yv))) from rfl, w32_of, Int32.ofInt_mul] at K
      exact K
    · cases hr
      refine lv_iand hx hb (zdc_eq hc) ?_
      have K := K (r32_i _)
      rw [List.map_cons, show zcv G (zI (zand xv yv)) = .int (Int32.ofInt (zand xv yv)) from rfl, zand, Int32.ofInt_toInt] at K
      exact K
    · cases hr
      refine lv_ior hx hb (zdc_eq hc) ?_
      have K := K (r32_i _)
      rw [List.map_cons, show zcv G (zI (zor xv yv)) = .int (Int32.ofInt (zor xv yv)) from rfl, zor, Int32.ofInt_toInt] at K
      exact K
    · split at hr
      · cases hr
      · rename_i h0
        cases hr
        refine lv_idiv hx hb (zdc_eq hc) (z32_ne0 hwy h0) ?_
        have K := K (w32_r _)
        rw [List.map_cons, show zcv G (zI (w32 (Int.tdiv xv yv))) = .int (Int32.ofInt (w32 (Int.tdiv xv yv))) from rfl, ← z32_div hwx hwy] at K
        exact K
    · split at hr
      · cases hr
      · rename_i h0
        cases hr
        refine lv_irem hx hb (zdc_eq hc) (z32_ne0 hwy h0) ?_
        have K := K (r32_tmod hwx hwy)
        rw [List.map_cons, show zcv G (zI (Int.tmod xv yv)) = .int (Int32.ofInt (Int.tmod xv yv)) from rfl, ← z32_rem hwx hwy] at K
        exact K
    · cases hr
      refine lv_ishl hx hb (zdc_eq hc) ?_
      have K := K (r32_i _)
      rw [List.map_cons, show zcv G (zI (zshl xv yv)) = .int (Int32.ofInt (zshl xv yv)) from rfl, zshl, Int32.ofInt_toInt] at K
      exact K
    · cases hr
      refine lv_ishr hx hb (zdc_eq hc) ?_
      have K := K (r32_i _)
      rw [List.map_cons, show zcv G (zI (zshr xv yv)) = .int (Int32.ofInt (zshr xv yv)) from rfl, zshr, Int32.ofInt_toInt] at K
      exact K
    · cases hr
      refine lv_iushr hx hb (zdc_eq hc) rfl ?_
      have K := K (r32_i _)
      rw [List.map_cons, show zcv G (zI (zushr xv yv)) = .int (Int32.ofInt (zushr xv yv)) from rfl, zushr, Int32.ofInt_toInt] at K
      exact K
    · cases hr
  · cases hs
def zc_lar : zChk := fun y pc i => i.2.1 == 1 && zdo y pc (zI64 i.2.2.1) 1
theorem zp_lar : zSound (zs_lar, zc_lar) := by
  intro G y p l e R s m args below meth c H locs Q n0 m0 nF mF cx hRc hRs hRf hRl i pc ls st S lm pc' ls' st' S' hc hs hat hn0 hm0 hnF hmF kk
  obtain ⟨hx, hb, hml, hown, hts, hfix, -⟩ := cx
  obtain ⟨op, len, a, b, k, ex⟩ := i
  unfold zs_lar at hs
  dsimp only at hs
  simp only [zc_lar, Bool.and_eq_true, beq_iff_eq] at hc
  obtain ⟨rfl, hc⟩ := hc
  split at hs
  · rename_i yv xv st1
    have hwy := (zwf_hd hat.2.2.2.2.2).2 rfl
    have hwx := (zwf_hd (zwf_tl hat.2.2.2.2.2)).2 rfl
    have hwt := zwf_tl (zwf_tl hat.2.2.2.2.2)
    simp only [Option.map_eq_some_iff] at hs
    obtain ⟨r, hr, hs⟩ := hs
    cases hs
    have K := fun hr => kk H locs lm (hat.st (zwf_cons (zwfL (x := r) hr) hwt))
    unfold zLar at hr
    split at hr
    · cases hr
      refine lv_ladd hx hb (zdc_eq hc) ?_
      have K := K (w64_r _)
      rw [List.map_cons, show zcv G (zL (w64 (xv + yv))) = .long (Int64.ofInt (w64 (xv + yv))) from rfl, w64_of, Int64.ofInt_add] at K
      exact K
    · cases hr
      refine lv_lsub hx hb (zdc_eq hc) ?_
      have K := K (w64_r _)
      rw [List.map_cons, show zcv G (zL (w64 (xv - yv))) = .long (Int64.ofInt (w64 (xv - yv))) from rfl, w64_of, Int64.ofInt_sub] at K
      exact K
    · cases hr
      refine lv_lmul hx hb (zdc_eq hc) ?_
      have K := K (w64_r _)
      rw [List.map_cons, show zcv G (zL (w64 (xv * yv))) = .long (Int64.ofInt (w64 (xv * yv))) from rfl, w64_of, Int64.ofInt_mul] at K
      exact K
    · cases hr
      refine lv_land hx hb (zdc_eq hc) ?_
      have K := K (r64_i _)
      rw [List.map_cons, show zcv G (zL (zandL xv yv)) = .long (Int64.ofInt (zandL xv yv)) from rfl, zandL, Int64.ofInt_toInt] at K
      exact K
    · cases hr
      refine lv_lor hx hb (zdc_eq hc) ?_
      have K := K (r64_i _)
      rw [List.map_cons, show zcv G (zL (zorL xv yv)) = .long (Int64.ofInt (zorL xv yv)) from rfl, zorL, Int64.ofInt_toInt] at K
      exact K
    · split at hr
      · cases hr
      · rename_i h0
        cases hr
        refine lv_ldiv hx hb (zdc_eq hc) (z64_ne0 hwy h0) ?_
        have K := K (w64_r _)
        rw [List.map_cons, show zcv G (zL (w64 (Int.tdiv xv yv))) = .long (Int64.ofInt (w64 (Int.tdiv xv yv))) from rfl, ← z64_div hwx hwy] at K
        exact K
    · split at hr
      · cases hr
      · rename_i h0
        cases hr
        refine lv_lrem hx hb (zdc_eq hc) (z64_ne0 hwy h0) ?_
        have K := K (r64_tmod hwx hwy)
        rw [List.map_cons, show zcv G (zL (Int.tmod xv yv)) = .long (Int64.ofInt (Int.tmod xv yv)) from rfl, ← z64_rem hwx hwy] at K
        exact K
    · cases hr
  · cases hs
def zc_lsh : zChk := fun y pc i => i.2.1 == 1 && ((i.2.2.1 == 0 && zdc y pc .lshl 1) || (i.2.2.1 == 1 && zdc y pc .lushr 1))
theorem zp_lsh : zSound (zs_lsh, zc_lsh) := by
  intro G y p l e R s m args below meth c H locs Q n0 m0 nF mF cx hRc hRs hRf hRl i pc ls st S lm pc' ls' st' S' hc hs hat hn0 hm0 hnF hmF kk
  obtain ⟨hx, hb, hml, hown, hts, hfix, -⟩ := cx
  obtain ⟨op, len, a, b, k, ex⟩ := i
  unfold zs_lsh at hs
  dsimp only at hs
  simp only [zc_lsh, Bool.and_eq_true, Bool.or_eq_true, beq_iff_eq] at hc
  split at hs
  · rename_i yv xv st1
    have hwt := zwf_tl (zwf_tl hat.2.2.2.2.2)
    cases hs
    obtain ⟨rfl, ⟨rfl, hc⟩ | ⟨rfl, hc⟩⟩ := hc
    · refine lv_lshl hx hb (zdc_eq hc) rfl ?_
      have K := kk H locs lm (hat.st (zwf_cons (zwfL (by rw [if_pos rfl]; exact r64_i _)) hwt))
      rw [if_pos rfl, List.map_cons, show zcv G (zL (zshlL xv yv)) = .long (Int64.ofInt (zshlL xv yv)) from rfl, zshlL, Int64.ofInt_toInt] at K
      exact K
    · refine lv_lushr hx hb (zdc_eq hc) rfl ?_
      have K := kk H locs lm (hat.st (zwf_cons (zwfL (by rw [if_neg (by decide)]; exact r64_i _)) hwt))
      rw [if_neg (by decide), List.map_cons, show zcv G (zL (zushrL xv yv)) = .long (Int64.ofInt (zushrL xv yv)) from rfl, zushrL, Int64.ofInt_toInt] at K
      exact K
  · cases hs
def zIun (a : Nat) : Option Instr := match a with
  | 0 => some .ineg
  | 1 => some .i2l
  | 2 => some .l2i
  | 3 => some .i2b
  | 4 => some .i2c
  | _ => none
def zc_un : zChk := fun y pc i => i.2.1 == 1 && zdo y pc (zIun i.2.2.1) 1
theorem z_i2c {x : Int} (h : 0 ≤ x ∧ x < 65536) : ((Int32.ofInt x).toUInt32 % 65536).toInt32 = Int32.ofInt x := by
  rw [pk_char]
  have hr : r32 x := ⟨by omega, by omega⟩
  have h1 : (Int32.ofInt x).toBitVec.toNat = x.toNat := by
    have : Int32.ofInt x = nI x.toNat := by
      apply Int32.toInt_inj.mp
      rw [z32 hr, nI_toInt (by omega)]; omega
    rw [this, pk_tn (by omega)]
  rw [h1, Nat.mod_eq_of_lt (by omega)]
  apply Int32.toInt_inj.mp
  rw [z32 hr, nI_toInt (by omega)]; omega
theorem zp_un : zSound (zs_un, zc_un) := by
  intro G y p l e R s m args below meth c H locs Q n0 m0 nF mF cx hRc hRs hRf hRl i pc ls st S lm pc' ls' st' S' hc hs hat hn0 hm0 hnF hmF kk
  obtain ⟨hx, hb, hml, hown, hts, hfix, -⟩ := cx
  obtain ⟨op, len, a, b, k, ex⟩ := i
  unfold zs_un at hs
  dsimp only at hs
  simp only [zc_un, Bool.and_eq_true, beq_iff_eq] at hc
  obtain ⟨rfl, hc⟩ := hc
  have hwt := fun {v st1} (h : st = v :: st1) => zwf_tl (h ▸ hat.2.2.2.2.2)
  split at hs
  · rename_i xv st1
    cases hs
    refine lv_ineg hx hb (zdc_eq hc) ?_
    have K := kk H locs lm (hat.st (zwf_cons (zwfI (w32_r _)) (hwt rfl)))
    rw [List.map_cons, show zcv G (zI (w32 (-xv))) = .int (Int32.ofInt (w32 (-xv))) from rfl, w32_of, Int32.ofInt_neg] at K
    exact K
  · rename_i xv st1
    cases hs
    have hwx := (zwf_hd hat.2.2.2.2.2).1 rfl
    refine lv_i2l hx hb (zdc_eq hc) (v := Int64.ofInt xv) ?_ (kk H locs lm (hat.st (zwf_cons (zwfL ⟨by have := hwx.1; simp only at this; omega, by have := hwx.2; simp only at this; omega⟩) (hwt rfl))))
    apply Int64.toInt_inj.mp
    rw [Int32.toInt_toInt64, z32 hwx, z64]
    exact ⟨by have := hwx.1; simp only at this; omega, by have := hwx.2; simp only at this; omega⟩
  · rename_i xv st1
    cases hs
    refine lv_l2i hx hb (zdc_eq hc) (v := Int32.ofInt (w32 xv)) ?_ (kk H locs lm (hat.st (zwf_cons (zwfI (w32_r _)) (hwt rfl))))
    rw [Int64.toInt32_ofInt, w32_of]
  · rename_i xv st1
    cases hs
    refine lv_i2b hx hb (zdc_eq hc) rfl ?_
    have K := kk H locs lm (hat.st (zwf_cons (zwfI (r32_i _)) (hwt rfl)))
    rw [List.map_cons, show zcv G (zI (zi8 xv)) = .int (Int32.ofInt (zi8 xv)) from rfl, zi8, Int32.ofInt_toInt] at K
    exact K
  · rename_i xv st1
    split at hs
    · rename_i h0
      cases hs
      exact lv_i2c hx hb (zdc_eq hc) (z_i2c h0) (kk H locs lm (hat.st (zwf_cons (zwf_hd hat.2.2.2.2.2) (hwt rfl))))
    · cases hs
  · cases hs
theorem z_cmp {x y : Int} (hx : r64 x) (hy : r64 y) : lg_cmp (Int64.ofInt x) (Int64.ofInt y) = Int32.ofInt (zcmp x y) := by
  unfold lg_cmp zcmp
  have e1 : (Int64.ofInt x > Int64.ofInt y) ↔ y < x := z64_lt hy hx
  by_cases h1 : y < x
  · rw [if_pos (e1.mpr h1), if_pos h1]; rfl
  · rw [if_neg (fun q => h1 (e1.mp q)), if_neg h1]
    by_cases h2 : x = y
    · rw [if_pos ((z64_inj hx hy).mpr h2), if_pos h2]; rfl
    · rw [if_neg (fun q => h2 ((z64_inj hx hy).mp q)), if_neg h2]; rfl
theorem zcmp_r (x y : Int) : r32 (zcmp x y) := by
  unfold zcmp
  split
  · exact ⟨by decide, by decide⟩
  · split <;> exact ⟨by decide, by decide⟩
def zc_lcmp : zChk := fun y pc i => i.2.1 == 1 && zdc y pc .lcmp 1
theorem zp_lcmp : zSound (zs_lcmp, zc_lcmp) := by
  intro G y p l e R s m args below meth c H locs Q n0 m0 nF mF cx hRc hRs hRf hRl i pc ls st S lm pc' ls' st' S' hc hs hat hn0 hm0 hnF hmF kk
  obtain ⟨hx, hb, hml, hown, hts, hfix, -⟩ := cx
  obtain ⟨op, len, a, b, k, ex⟩ := i
  unfold zs_lcmp at hs
  dsimp only at hs
  simp only [zc_lcmp, Bool.and_eq_true, beq_iff_eq] at hc
  obtain ⟨rfl, hc⟩ := hc
  split at hs
  · rename_i yv xv st1
    cases hs
    have hwy := (zwf_hd hat.2.2.2.2.2).2 rfl
    have hwx := (zwf_hd (zwf_tl hat.2.2.2.2.2)).2 rfl
    have hwt := zwf_tl (zwf_tl hat.2.2.2.2.2)
    refine W.lcmp hx hb (zdc_eq hc) ?_
    rw [z_cmp hwx hwy]
    exact kk H locs lm (hat.st (zwf_cons (zwfI (zcmp_r _ _)) hwt))
  · cases hs
def zCd (a : Nat) : ClassFile.Cond := match a with
  | 0 => .eq
  | 1 => .ne
  | 2 => .lt
  | 3 => .ge
  | 4 => .gt
  | _ => .le
def zc_if : zChk := fun y pc i => i.2.1 == 3 && decide (i.2.2.1 < 6) && zdc y pc (.ifCond (zCd i.2.2.1) ((i.2.2.2.1 : Int) - pc)) 3
theorem r32_0 : r32 0 := ⟨by decide, by decide⟩
theorem zp_if : zSound (zs_if, zc_if) := by
  intro G y p l e R s m args below meth c H locs Q n0 m0 nF mF cx hRc hRs hRf hRl i pc ls st S lm pc' ls' st' S' hc hs hat hn0 hm0 hnF hmF kk
  obtain ⟨hx, hb, hml, hown, hts, hfix, -⟩ := cx
  obtain ⟨op, len, a, b, k, ex⟩ := i
  unfold zs_if at hs
  dsimp only at hs
  simp only [zc_if, Bool.and_eq_true, beq_iff_eq, decide_eq_true_eq] at hc
  obtain ⟨⟨rfl, h6⟩, hc⟩ := hc
  split at hs
  · rename_i xv st1
    cases hs
    have hwx := (zwf_hd hat.2.2.2.2.2).1 rfl
    have K := kk H locs lm (hat.st (zwf_tl hat.2.2.2.2.2))
    have ht : (pc : Int) + ((b : Int) - pc) = (b : Int) := by omega
    rw [List.map_cons, show zcv G (0, xv) = .int (Int32.ofInt xv) from rfl]
    match a, h6 with
    | 0, _ =>
      refine lv_if_eq hx hb (zdc_eq hc) ht (fun h => ?_) (fun h => ?_)
      · rw [← z32_0, z32_inj hwx r32_0] at h
        rw [if_pos (by simpa [zcond] using h)] at K; exact K
      · rw [← z32_0, z32_inj hwx r32_0] at h
        rw [if_neg (by simpa [zcond] using h)] at K; exact K
    | 1, _ =>
      refine lv_if_ne hx hb (zdc_eq hc) ht (fun h => ?_) (fun h => ?_)
      · rw [← z32_0, z32_inj hwx r32_0] at h
        rw [if_pos (by simpa [zcond] using h)] at K; exact K
      · rw [← z32_0, z32_inj hwx r32_0] at h
        rw [if_neg (by simpa [zcond] using h)] at K; exact K
    | 2, _ =>
      refine lv_if_lt hx hb (zdc_eq hc) ht (fun h => ?_) (fun h => ?_)
      · rw [← z32_0, z32_lt hwx r32_0] at h
        rw [if_pos (by simpa [zcond] using h)] at K; exact K
      · rw [← z32_0, z32_lt hwx r32_0] at h
        rw [if_neg (by simpa [zcond] using h)] at K; exact K
    | 3, _ =>
      refine lv_if_ge hx hb (zdc_eq hc) ht (fun h => ?_) (fun h => ?_)
      · rw [← z32_0, z32_le r32_0 hwx] at h
        rw [if_pos (by simpa [zcond] using h)] at K; exact K
      · rw [← z32_0, z32_le r32_0 hwx] at h
        rw [if_neg (by simpa [zcond] using h)] at K; exact K
    | 4, _ =>
      refine lv_if_gt hx hb (zdc_eq hc) ht (fun h => ?_) (fun h => ?_)
      · rw [← z32_0, z32_lt r32_0 hwx] at h
        rw [if_pos (by simpa [zcond] using h)] at K; exact K
      · rw [← z32_0, z32_lt r32_0 hwx] at h
        rw [if_neg (by simpa [zcond] using h)] at K; exact K
    | 5, _ =>
      refine lv_if_le hx hb (zdc_eq hc) ht (fun h => ?_) (fun h => ?_)
      · rw [← z32_0, z32_le hwx r32_0] at h
        rw [if_pos (by simpa [zcond] using h)] at K; exact K
      · rw [← z32_0, z32_le hwx r32_0] at h
        rw [if_neg (by simpa [zcond] using h)] at K; exact K
    | n + 6, h => omega
  · cases hs
def zc_icmp : zChk := fun y pc i => i.2.1 == 3 && decide (i.2.2.1 < 6) && zdc y pc (.if_icmp (zCd i.2.2.1) ((i.2.2.2.1 : Int) - pc)) 3
theorem zp_icmp : zSound (zs_icmp, zc_icmp) := by
  intro G y p l e R s m args below meth c H locs Q n0 m0 nF mF cx hRc hRs hRf hRl i pc ls st S lm pc' ls' st' S' hc hs hat hn0 hm0 hnF hmF kk
  obtain ⟨hx, hb, hml, hown, hts, hfix, -⟩ := cx
  obtain ⟨op, len, a, b, k, ex⟩ := i
  unfold zs_icmp at hs
  dsimp only at hs
  simp only [zc_icmp, Bool.and_eq_true, beq_iff_eq, decide_eq_true_eq] at hc
  obtain ⟨⟨rfl, h6⟩, hc⟩ := hc
  split at hs
  · rename_i yv xv st1
    cases hs
    have hwy := (zwf_hd hat.2.2.2.2.2).1 rfl
    have hwx := (zwf_hd (zwf_tl hat.2.2.2.2.2)).1 rfl
    have K := kk H locs lm (hat.st (zwf_tl (zwf_tl hat.2.2.2.2.2)))
    have ht : (pc : Int) + ((b : Int) - pc) = (b : Int) := by omega
    rw [List.map_cons, List.map_cons, show zcv G (0, xv) = .int (Int32.ofInt xv) from rfl, show zcv G (0, yv) = .int (Int32.ofInt yv) from rfl]
    match a, h6 with
    | 0, _ =>
      refine lv_icmp_eq hx hb (zdc_eq hc) ht (fun h => ?_) (fun h => ?_)
      · rw [z32_inj hwx hwy] at h
        rw [if_pos (by simpa [zcond] using h)] at K; exact K
      · rw [z32_inj hwx hwy] at h
        rw [if_neg (by simpa [zcond] using h)] at K; exact K
    | 1, _ =>
      refine lv_icmp_ne hx hb (zdc_eq hc) ht (fun h => ?_) (fun h => ?_)
      · rw [z32_inj hwx hwy] at h
        rw [if_pos (by simpa [zcond] using h)] at K; exact K
      · rw [z32_inj hwx hwy] at h
        rw [if_neg (by simpa [zcond] using h)] at K; exact K
    | 2, _ =>
      refine lv_icmp_lt hx hb (zdc_eq hc) ht (fun h => ?_) (fun h => ?_)
      · rw [z32_lt hwx hwy] at h
        rw [if_pos (by simpa [zcond] using h)] at K; exact K
      · rw [z32_lt hwx hwy] at h
        rw [if_neg (by simpa [zcond] using h)] at K; exact K
    | 3, _ =>
      refine lv_icmp_ge hx hb (zdc_eq hc) ht (fun h => ?_) (fun h => ?_)
      · rw [z32_le hwy hwx] at h
        rw [if_pos (by simpa [zcond] using h)] at K; exact K
      · rw [z32_le hwy hwx] at h
        rw [if_neg (by simpa [zcond] using h)] at K; exact K
    | 4, _ =>
      refine lv_icmp_gt hx hb (zdc_eq hc) ht (fun h => ?_) (fun h => ?_)
      · rw [z32_lt hwy hwx] at h
        rw [if_pos (by simpa [zcond] using h)] at K; exact K
      · rw [z32_lt hwy hwx] at h
        rw [if_neg (by simpa [zcond] using h)] at K; exact K
    | 5, _ =>
      refine lv_icmp_le hx hb (zdc_eq hc) ht (fun h => ?_) (fun h => ?_)
      · rw [z32_le hwx hwy] at h
        rw [if_pos (by simpa [zcond] using h)] at K; exact K
      · rw [z32_le hwx hwy] at h
        rw [if_neg (by simpa [zcond] using h)] at K; exact K
    | n + 6, h => omega
  · cases hs
def zc_goto : zChk := fun y pc i => i.2.1 == 3 && zdc y pc (.goto ((i.2.2.2.1 : Int) - pc)) 3
theorem zp_goto : zSound (zs_goto, zc_goto) := by
  intro G y p l e R s m args below meth c H locs Q n0 m0 nF mF cx hRc hRs hRf hRl i pc ls st S lm pc' ls' st' S' hc hs hat hn0 hm0 hnF hmF kk
  obtain ⟨hx, hb, hml, hown, hts, hfix, -⟩ := cx
  obtain ⟨op, len, a, b, k, ex⟩ := i
  cases hs
  simp only [zc_goto, Bool.and_eq_true, beq_iff_eq] at hc
  have ht : (pc : Int) + ((b : Int) - pc) = (b : Int) := by omega
  exact lv_goto hx hb (zdc_eq hc.2) ht (kk H locs lm hat)
def zc_dup : zChk := fun y pc i => i.2.1 == 1 && zdc y pc .dup 1
theorem zp_dup : zSound (zs_dup, zc_dup) := by
  intro G y p l e R s m args below meth c H locs Q n0 m0 nF mF cx hRc hRs hRf hRl i pc ls st S lm pc' ls' st' S' hc hs hat hn0 hm0 hnF hmF kk
  obtain ⟨hx, hb, hml, hown, hts, hfix, -⟩ := cx
  obtain ⟨op, len, a, b, k, ex⟩ := i
  have hg := hfix.2.2.2.2.2.2.2.1
  unfold zs_dup at hs
  dsimp only at hs
  simp only [zc_dup, Bool.and_eq_true, beq_iff_eq] at hc
  obtain ⟨rfl, hc⟩ := hc
  split at hs
  · split at hs
    · rename_i h1
      cases hs
      exact lv_dup hx hb (zdc_eq hc) ((zcv_cat G _ hg).trans h1) (kk H locs lm (hat.st (zwf_cons (zwf_hd hat.2.2.2.2.2) hat.2.2.2.2.2)))
    · cases hs
  · cases hs
def zc_dup2 : zChk := fun y pc i => i.2.1 == 1 && zdc y pc .dup2 1
theorem zp_dup2 : zSound (zs_dup2, zc_dup2) := by
  intro G y p l e R s m args below meth c H locs Q n0 m0 nF mF cx hRc hRs hRf hRl i pc ls st S lm pc' ls' st' S' hc hs hat hn0 hm0 hnF hmF kk
  obtain ⟨hx, hb, hml, hown, hts, hfix, -⟩ := cx
  obtain ⟨op, len, a, b, k, ex⟩ := i
  have hg := hfix.2.2.2.2.2.2.2.1
  unfold zs_dup2 at hs
  dsimp only at hs
  simp only [zc_dup2, Bool.and_eq_true, beq_iff_eq] at hc
  obtain ⟨rfl, hc⟩ := hc
  split at hs
  · split at hs
    · rename_i h1
      cases hs
      exact lv_dup2_2 hx hb (zdc_eq hc) ((zcv_cat G _ hg).trans h1) (kk H locs lm (hat.st (zwf_cons (zwf_hd hat.2.2.2.2.2) hat.2.2.2.2.2)))
    · rename_i h1
      split at hs
      · split at hs
        · rename_i h2
          cases hs
          have hw := hat.2.2.2.2.2
          exact lv_dup2_11 hx hb (zdc_eq hc) ((zcv_cat G _ hg).trans (by unfold zcat at h1 ⊢; split at h1 <;> simp_all)) ((zcv_cat G _ hg).trans h2) (kk H locs lm (hat.st (zwf_cons (zwf_hd hw) (zwf_cons (zwf_hd (zwf_tl hw)) hw))))
        · cases hs
      · cases hs
  · cases hs
def zc_pop : zChk := fun y pc i => i.2.1 == 1 && zdc y pc .pop 1
theorem zp_pop : zSound (zs_pop, zc_pop) := by
  intro G y p l e R s m args below meth c H locs Q n0 m0 nF mF cx hRc hRs hRf hRl i pc ls st S lm pc' ls' st' S' hc hs hat hn0 hm0 hnF hmF kk
  obtain ⟨hx, hb, hml, hown, hts, hfix, -⟩ := cx
  obtain ⟨op, len, a, b, k, ex⟩ := i
  have hg := hfix.2.2.2.2.2.2.2.1
  unfold zs_pop at hs
  dsimp only at hs
  simp only [zc_pop, Bool.and_eq_true, beq_iff_eq] at hc
  obtain ⟨rfl, hc⟩ := hc
  split at hs
  · split at hs
    · rename_i h1
      cases hs
      exact lv_pop hx hb (zdc_eq hc) ((zcv_cat G _ hg).trans h1) (kk H locs lm (hat.st (zwf_tl hat.2.2.2.2.2)))
    · cases hs
  · cases hs
def zc_table : zChk := fun y pc i => i.2.2.2.2.2.all (fun t => decide (0 ≤ t)) && zdc y pc (.tableswitch ((i.2.2.2.1 : Int) - pc) i.2.2.2.2.1 (i.2.2.2.2.1 + i.2.2.2.2.2.length - 1) (i.2.2.2.2.2.map (fun t : Int => t - (pc : Int))).toArray) i.2.1
theorem zp_table : zSound (zs_table, zc_table) := by
  intro G y p l e R s m args below meth c H locs Q n0 m0 nF mF cx hRc hRs hRf hRl i pc ls st S lm pc' ls' st' S' hc hs hat hn0 hm0 hnF hmF kk
  obtain ⟨hx, hb, hml, hown, hts, hfix, -⟩ := cx
  obtain ⟨op, len, a, b, k, ex⟩ := i
  unfold zs_table at hs
  dsimp only at hs
  simp only [zc_table, Bool.and_eq_true] at hc
  obtain ⟨hp, hc⟩ := hc
  split at hs
  · rename_i xv st1
    have hwx := (zwf_hd hat.2.2.2.2.2).1 rfl
    have e1 : (Int32.ofInt xv).toInt = xv := z32 hwx
    split at hs
    · rename_i h1
      cases hs
      exact lv_tableOut hx hb (zdc_eq hc) (by rw [e1]; omega) (by omega) (kk H locs lm (hat.st (zwf_tl hat.2.2.2.2.2)))
    · rename_i h1
      cases hs
      have hlt : (xv - k).toNat < ex.length := by omega
      have hm : ex[(xv - k).toNat] ∈ ex := List.getElem_mem hlt
      have h0 : 0 ≤ ex[(xv - k).toNat] := by simpa using List.all_eq_true.mp hp _ hm
      have hg : ex.getD (xv - k).toNat 0 = ex[(xv - k).toNat] := by rw [List.getD_eq_getElem?_getD, List.getElem?_eq_getElem hlt]; rfl
      refine lv_tableIn hx hb (zdc_eq hc) (off := ex[(xv - k).toNat] - pc) (by rw [e1]; omega) (by rw [e1]; omega) ?_ ?_ (kk H locs lm (hat.st (zwf_tl hat.2.2.2.2.2)))
      · rw [e1]
        simp [hlt]
      · rw [hg]; omega
  · cases hs
def zprs : Nat → List Int → List (Int × Int)
  | pc, k :: t :: r => (k, t - pc) :: zprs pc r
  | _, _ => []
def zlkok : List Int → Bool
  | _ :: t :: r => decide (0 ≤ t) && zlkok r
  | _ => true
def zc_look : zChk := fun y pc i => zlkok i.2.2.2.2.2 && ((zprs pc i.2.2.2.2.2).zip ((zprs pc i.2.2.2.2.2).drop 1)).all (fun (a, next) => decide (a.1 < next.1)) && zdc y pc (.lookupswitch ((i.2.2.2.1 : Int) - pc) (zprs pc i.2.2.2.2.2).toArray) i.2.1
theorem zlook_eq (pc b : Nat) (x : Int) : ∀ (ex : List Int), zlkok ex = true → (pc : Int) + Op.lookupswitch.offset (zprs pc ex) ((b : Int) - pc) x = (zlook b x ex : Int)
  | [], _ => by simp only [zprs, zlook]; rw [Op.lookupswitch.offset]; omega
  | [_], _ => by simp only [zprs, zlook]; rw [Op.lookupswitch.offset]; omega
  | k :: t :: r, h => by
    simp only [zlkok, Bool.and_eq_true, decide_eq_true_eq] at h
    simp only [zprs, zlook]
    rw [Op.lookupswitch.offset_cons]
    by_cases hk : x = k
    · subst hk
      simp; omega
    · rw [if_neg hk]
      have := zlook_eq pc b x r h.2
      rw [if_neg]
      · exact this
      · simpa [eq_comm] using hk
theorem zp_look : zSound (zs_look, zc_look) := by
  intro G y p l e R s m args below meth c H locs Q n0 m0 nF mF cx hRc hRs hRf hRl i pc ls st S lm pc' ls' st' S' hc hs hat hn0 hm0 hnF hmF kk
  obtain ⟨hx, hb, hml, hown, hts, hfix, -⟩ := cx
  obtain ⟨op, len, a, b, k, ex⟩ := i
  unfold zs_look at hs
  dsimp only at hs
  simp only [zc_look, Bool.and_eq_true] at hc
  obtain ⟨⟨hp, hq⟩, hc⟩ := hc
  split at hs
  · rename_i xv st1
    cases hs
    have hwx := (zwf_hd hat.2.2.2.2.2).1 rfl
    refine lv_lookup hx hb (zdc_eq hc) hq rfl ?_ (kk H locs lm (hat.st (zwf_tl hat.2.2.2.2.2)))
    rw [z32 hwx]
    exact zlook_eq pc b xv ex hp
  · cases hs

def zc_null : zChk := fun y pc i => i.2.1 == 1 && zdc y pc .aconst_null 1
theorem zp_null : zSound (zs_null, zc_null) := by
  intro G y p l e R s m args below meth c H locs Q n0 m0 nF mF cx hRc hRs hRf hRl i pc ls st S lm pc' ls' st' S' hc hs hat hn0 hm0 hnF hmF kk
  obtain ⟨hx, hb, hml, hown, hts, hfix, -⟩ := cx
  obtain ⟨op, len, a, b, k, ex⟩ := i
  cases hs
  simp only [zc_null, Bool.and_eq_true, beq_iff_eq] at hc
  obtain ⟨rfl, hc⟩ := hc
  exact lv_null hx hb (zdc_eq hc) (kk H locs lm (hat.st (zwf_cons (zwfR _) hat.2.2.2.2.2)))
def zc_dupx : zChk := fun y pc i => i.2.1 == 1 && zdc y pc .dup_x1 1
theorem zp_dupx : zSound (zs_dupx, zc_dupx) := by
  intro G y p l e R s m args below meth c H locs Q n0 m0 nF mF cx hRc hRs hRf hRl i pc ls st S lm pc' ls' st' S' hc hs hat hn0 hm0 hnF hmF kk
  obtain ⟨hx, hb, hml, hown, hts, hfix, -⟩ := cx
  obtain ⟨op, len, a, b, k, ex⟩ := i
  have hg := hfix.2.2.2.2.2.2.2.1
  unfold zs_dupx at hs
  dsimp only at hs
  simp only [zc_dupx, Bool.and_eq_true, beq_iff_eq] at hc
  obtain ⟨rfl, hc⟩ := hc
  split at hs
  · split at hs
    · rename_i h1
      cases hs
      have hw := hat.2.2.2.2.2
      exact lv_dup_x1 hx hb (zdc_eq hc) ((zcv_cat G _ hg).trans h1.1) ((zcv_cat G _ hg).trans h1.2) (kk H locs lm (hat.st (zwf_cons (zwf_hd hw) (zwf_cons (zwf_hd (zwf_tl hw)) (zwf_cons (zwf_hd hw) (zwf_tl (zwf_tl hw)))))))
    · cases hs
  · cases hs
def zc_nonnull : zChk := fun y pc i => i.2.1 == 3 && zdc y pc (.ifnonnull ((i.2.2.2.1 : Int) - pc)) 3
theorem zp_nonnull : zSound (zs_nonnull, zc_nonnull) := by
  intro G y p l e R s m args below meth c H locs Q n0 m0 nF mF cx hRc hRs hRf hRl i pc ls st S lm pc' ls' st' S' hc hs hat hn0 hm0 hnF hmF kk
  obtain ⟨hx, hb, hml, hown, hts, hfix, -⟩ := cx
  obtain ⟨op, len, a, b, k, ex⟩ := i
  unfold zs_nonnull at hs
  dsimp only at hs
  simp only [zc_nonnull, Bool.and_eq_true, beq_iff_eq] at hc
  obtain ⟨rfl, hc⟩ := hc
  split at hs
  · rename_i xv st1
    cases hs
    have K := kk H locs lm (hat.st (zwf_tl hat.2.2.2.2.2))
    have ht : (pc : Int) + ((b : Int) - pc) = (b : Int) := by omega
    by_cases h : xv < 0
    · have e : zcv G (2, xv) = .null := by show (if xv < 0 then _ else _) = _; rw [if_pos h]
      rw [List.map_cons, e]
      rw [if_pos h] at K
      exact lv_ifnonnullN hx hb (zdc_eq hc) K
    · rw [List.map_cons, zcv_ref h]
      rw [if_neg h] at K
      exact lv_ifnonnull hx hb (zdc_eq hc) ht K
  · cases hs
