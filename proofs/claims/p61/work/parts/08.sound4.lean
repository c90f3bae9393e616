/-! stores into arrays, new cells, statics, texts -/
theorem zws_arr {G : zG} {S : zHp} {a j x : Int} {k n : Nat} (h32 : 32 ≤ a) (g1 : S.2.1[(a - 32).toNat]? = some (k, n)) (hk : 100 ≤ k) :
    zws G (S.1, S.2.1, zup S.2.2 a j x) = (zws G S).set (a - 32).toNat (gB G + (a - 32).toNat, .inl (gA G (k - 100), n, zarr G k (zup S.2.2 a j x a))) := by
  rw [zws_up h32 g1, zcell_arr hk]
theorem zrg_arr_of {k j : Nat} {x : Int} (hk : 100 ≤ k) (h1 : k = 101 → r64 x) (h2 : ¬ k = 101 → k < 104 → r32 x) : zrg k j x := by
  unfold zrg zvt
  rw [if_neg (by omega)]
  by_cases e : k = 101
  · rw [if_pos e]; exact ⟨fun q => absurd q (by decide), fun _ => h1 e⟩
  · rw [if_neg e]
    by_cases e2 : k < 104
    · rw [if_pos e2]; exact ⟨fun _ => h2 e e2, fun q => absurd q (by decide)⟩
    · rw [if_neg e2]; exact ⟨fun q => absurd q (by decide), fun q => absurd q (by decide)⟩
/-- behind a store into one of our arrays -/
theorem zAt.arr {G : zG} {y : Nat} {s : State} {lm : Array Slot} {H H1 : Heap} {locs : List Loc} {ls st st' : List zV} {S : zHp} {a j x : Int} {k n : Nat} {v : Value} (h : zAt G y s lm H locs ls st S) (h32 : 32 ≤ a) (g1 : S.2.1[(a - 32).toNat]? = some (k, n)) (hk : 100 ≤ k) (hj : 0 ≤ j)
    (hx1 : k = 101 → r64 x) (hx2 : ¬ k = 101 → k < 104 → r32 x) (hw : ∀ v ∈ st', zwf v)
    (hc1 : ∀ f, vp_cell (gA G (k - 100)) (n, zarr G k f) = arrV (gA G (k - 100)) n (fun q => if k = 101 then .long (Int64.ofInt (f q)) else if k < 104 then .int (Int32.ofInt (f q)) else zcv G (zR (f q)))) (hv : (if k = 101 then .long (Int64.ofInt x) else if k < 104 then .int (Int32.ofInt x) else zcv G (zR x)) = v)
    (e1 : H1[gB G + (a - 32).toNat]? = some ((vp_cell (gA G (k - 100)) (n, zarr G k (S.2.2 a))).setSlot j.toNat v)) (e2 : H1.size = H.size) (e3 : ∀ q, q ≠ gB G + (a - 32).toNat → H1[q]? = H[q]?) : zAt G y s lm H1 (locs ++ [⟨gB G + (a - 32).toNat, j.toNat⟩]) ls st' (S.1, S.2.1, zup S.2.2 a j x) := by
  obtain ⟨⟨hsz, hP, hI⟩, hS, h3, h4, h5, -⟩ := h
  have hget := zws_get (G := G) g1
  have ea : 32 + (((a - 32).toNat : Nat) : Int) = a := by omega
  rw [zcell_arr hk, ea] at hget
  refine ⟨⟨by rw [e2]; exact hsz, ?_, zInv_up hI h32 g1 (fun q _ => zrg_arr_of hk hx1 hx2)⟩, hS.put e2 e3 (show gB G ≤ _ by omega), h3, h4, h5, hw⟩
  rw [zws_arr h32 g1 hk]
  refine hP.set (zws_D G S) hget ?_ e3
  show H1[_]? = some (vp_cell _ _)
  rw [e1, hc1, hc1, arrV_store]
  congr 2
  funext q
  unfold updV
  by_cases hq : q = j.toNat
  · rw [if_pos hq]
    have : (q : Int) = j := by omega
    rw [this, zup_at]
    exact hv.symm
  · rw [if_neg hq, zup_ne (fun z => hq (by omega))]
theorem zcell_i {G : zG} {k n : Nat} (h1 : ¬ k = 101) (h2 : k < 104) : ∀ f, vp_cell (gA G (k - 100)) (n, zarr G k f) = arrV (gA G (k - 100)) n (fun q => if k = 101 then .long (Int64.ofInt (f q)) else if k < 104 then .int (Int32.ofInt (f q)) else zcv G (zR (f q))) := by
  intro f
  rw [zarr_i h1 h2, vp_cell_i]
  congr 1
  funext q
  rw [if_neg h1, if_pos h2]
theorem zcell_l {G : zG} {n : Nat} : ∀ f, vp_cell (gA G (101 - 100)) (n, zarr G 101 f) = arrV (gA G (101 - 100)) n (fun q => if 101 = 101 then .long (Int64.ofInt (f q)) else if 101 < 104 then .int (Int32.ofInt (f q)) else zcv G (zR (f q))) := by
  intro f
  rw [zarr_l, vp_cell_l]
  congr 1
theorem zcell_q {G : zG} {k n : Nat} (h : 104 ≤ k) : ∀ f, vp_cell (gA G (k - 100)) (n, zarr G k f) = arrV (gA G (k - 100)) n (fun q => if k = 101 then .long (Int64.ofInt (f q)) else if k < 104 then .int (Int32.ofInt (f q)) else zcv G (zR (f q))) := by
  intro f
  rw [zarr_q h, vp_cell_q]
  congr 1
  funext q
  rw [if_neg (show ¬ k = 101 by omega), if_neg (show ¬ k < 104 by omega)]
  show va_rf (if f q < 0 then none else some (zad G (f q))) = (if f q < 0 then _ else _)
  split <;> rfl
def zIst (a : Nat) : Option Instr := match a with
  | 0 => some .iastore
  | 1 => some .lastore
  | 2 => some .bastore
  | 4 => some .aastore
  | _ => none
def zc_xast : zChk := fun y pc i => i.2.1 == 1 && zdo y pc (zIst i.2.2.1) 1
theorem zi8_n (x : Int) : narrow .byte (.int (Int32.ofInt x)) = .int (Int32.ofInt (zi8 x)) := by
  rw [zi8, Int32.ofInt_toInt]; rfl
theorem zp_xast : zSound (zs_xast, zc_xast) := by
  intro G y p l e R s m args below meth c H locs Q n0 m0 nF mF cx hRc hRs hRf hRl i pc ls st S lm pc' ls' st' S' hc hs hat hn0 hm0 hnF hmF kk
  obtain ⟨hx, hb, hml, hown, hts, hfix, hnm⟩ := cx
  obtain ⟨op, len, a, b, k, ex⟩ := i
  unfold zs_xast at hs
  dsimp only at hs
  simp only [zc_xast, Bool.and_eq_true, beq_iff_eq] at hc
  obtain ⟨rfl, hd⟩ := hc
  split at hs
  · unfold zs_iast at hs
    dsimp only at hs
    split at hs
    · rename_i xv jv av st1
      split at hs
      · rename_i c1 n1 hsh
        split at hs
        · rename_i hif
          obtain ⟨rfl, hj0, hjn, h32⟩ := hif
          cases hs
          obtain ⟨g1, g2, g3⟩ := zsh_own (G := G) h32 hsh
          have hw := hat.2.2.2.2.2
          have hxr := (zwf_hd hw).1 rfl
          have hjr := (zwf_hd (zwf_tl hw)).1 rfl
          have hget := zws_get (G := G) g1
          rw [zcell_arr (by decide), ← g2] at hget
          rw [List.map_cons, List.map_cons, List.map_cons, zcv_ref (by omega), g3, show zcv G (0, jv) = .int (Int32.ofInt jv) from rfl, show zcv G (0, xv) = .int (Int32.ofInt xv) from rfl]
          refine W.iast hx hb (hat.1.2.1 _ _ hget) ?_ ?_ ?_ rfl rfl (zdc_eq hd) (fun H1 e1 e2 e3 => ?_)
          · rw [zcell_i (by decide) (by decide)]; exact (hfix.1.2 0 _ rfl).1 _ _
          · rw [zcell_i (by decide) (by decide)]; exact fun q => by cases q
          · rw [zcell_i (by decide) (by decide), arrV_size]; exact z_in hjr hj0 hjn
          · rw [z_clamp hjr hj0] at e1 ⊢
            exact kk H1 _ lm (hat.arr h32 g1 (by decide) hj0 (fun q => absurd q (by decide)) (fun _ _ => hxr) (zwf_tl (zwf_tl (zwf_tl hw))) (zcell_i (by decide) (by decide)) rfl e1 e2 e3)
        · cases hs
      · cases hs
    · cases hs
  · unfold zs_last at hs
    dsimp only at hs
    split at hs
    · rename_i xv jv av st1
      split at hs
      · rename_i c1 n1 hsh
        split at hs
        · rename_i hif
          obtain ⟨rfl, hj0, hjn, h32⟩ := hif
          cases hs
          obtain ⟨g1, g2, g3⟩ := zsh_own (G := G) h32 hsh
          have hw := hat.2.2.2.2.2
          have hxr := (zwf_hd hw).2 rfl
          have hjr := (zwf_hd (zwf_tl hw)).1 rfl
          have hget := zws_get (G := G) g1
          rw [zcell_arr (by decide), ← g2] at hget
          rw [List.map_cons, List.map_cons, List.map_cons, zcv_ref (by omega), g3, show zcv G (0, jv) = .int (Int32.ofInt jv) from rfl, show zcv G (1, xv) = .long (Int64.ofInt xv) from rfl]
          refine W.last hx hb (hat.1.2.1 _ _ hget) ?_ ?_ ?_ rfl rfl (zdc_eq hd) (fun H1 e1 e2 e3 => ?_)
          · rw [zcell_l]; exact (hfix.1.2 1 _ rfl).1 _ _
          · rw [zcell_l]; exact fun q => by cases q
          · rw [zcell_l, arrV_size]; exact z_in hjr hj0 hjn
          · rw [z_clamp hjr hj0] at e1 ⊢
            exact kk H1 _ lm (hat.arr h32 g1 (by decide) hj0 (fun _ => hxr) (fun q => absurd rfl q) (zwf_tl (zwf_tl (zwf_tl hw))) zcell_l rfl e1 e2 e3)
        · cases hs
      · cases hs
    · cases hs
  · unfold zs_bast at hs
    dsimp only at hs
    split at hs
    · rename_i xv jv av st1
      split at hs
      · rename_i c1 n1 hsh
        split at hs
        · rename_i hif
          obtain ⟨rfl, hj0, hjn, h32⟩ := hif
          cases hs
          obtain ⟨g1, g2, g3⟩ := zsh_own (G := G) h32 hsh
          have hw := hat.2.2.2.2.2
          have hjr := (zwf_hd (zwf_tl hw)).1 rfl
          have hget := zws_get (G := G) g1
          rw [zcell_arr (by decide), ← g2] at hget
          rw [List.map_cons, List.map_cons, List.map_cons, zcv_ref (by omega), g3, show zcv G (0, jv) = .int (Int32.ofInt jv) from rfl, show zcv G (0, xv) = .int (Int32.ofInt xv) from rfl]
          refine W.bast hx hb (hat.1.2.1 _ _ hget) ?_ ?_ ?_ rfl rfl (zdc_eq hd) (fun H1 e1 e2 e3 => ?_)
          · rw [zcell_i (by decide) (by decide)]; exact (hfix.1.2 2 _ rfl).1 _ _
          · rw [zcell_i (by decide) (by decide)]; exact fun q => by cases q
          · rw [zcell_i (by decide) (by decide), arrV_size]; exact z_in hjr hj0 hjn
          · rw [z_clamp hjr hj0] at e1 ⊢
            exact kk H1 _ lm (hat.arr h32 g1 (by decide) hj0 (fun q => absurd q (by decide)) (fun _ _ => r32_i _) (zwf_tl (zwf_tl (zwf_tl hw))) (zcell_i (by decide) (by decide)) (zi8_n xv).symm e1 e2 e3)
        · cases hs
      · cases hs
    · cases hs
  · unfold zs_aast at hs
    dsimp only at hs
    split at hs
    · rename_i xv jv av st1
      split at hs
      · rename_i c1 n1 c2 n2 hsh hsh2
        split at hs
        · rename_i hif
          obtain ⟨hcc, hj0, hjn, h32, h32x⟩ := hif
          cases hs
          obtain ⟨g1, g2, g3⟩ := zsh_own (G := G) h32 hsh
          obtain ⟨k1, k2, k3⟩ := zsh_own (G := G) h32x hsh2
          have hw := hat.2.2.2.2.2
          have hjr := (zwf_hd (zwf_tl hw)).1 rfl
          have hk : 104 ≤ c1 := by omega
          have hget := zws_get (G := G) g1
          rw [zcell_arr (by omega), ← g2] at hget
          have hget2 := zws_get (G := G) k1
          rw [zcell_obj (by omega), ← k2] at hget2
          rw [List.map_cons, List.map_cons, List.map_cons, zcv_ref (x := av) (by omega), zcv_ref (x := xv) (by omega), g3, k3, show zcv G (0, jv) = .int (Int32.ofInt jv) from rfl]
          obtain ⟨r', hr', cellV, v1, v2, v3, -⟩ := hat.1.2.1 _ _ hget2
          have hty : ∃ r : vw_C, vwCl[c2]? = some r ∧ (zTys G)[c1 - 100]? = some (gA G (c1 - 100), .object r.1) := by
            rcases hcc with ⟨rfl, rfl⟩ | ⟨rfl, rfl⟩
            · exact ⟨_, rfl, rfl⟩
            · exact ⟨_, rfl, rfl⟩
          obtain ⟨r, hr, ht⟩ := hty
          have hcls := (hfix.1.1 c2 r hr).2
          obtain ⟨kA, comp, w1, w2, w3, -⟩ := (hfix.1.2 _ _ ht).2
          have hcomp : comp = (gD G).1 c2 := Option.some.inj (w3.symm.trans hcls.1)
          subst hcomp
          obtain ⟨kC, hkC, -⟩ := hcls.2
          have hcq := zcell_q (G := G) (n := n1) hk
          refine W.aast hx hb (hat.1.2.1 _ _ hget) (fun q h => ?_) (fun h => ?_) (k := kA) ?_ w2 rfl hkC ⟨fun q => (z_in hjr hj0 hjn) (Or.inl q), ?_⟩ v1 (fun q h => by rw [v3] at h; cases h) (by rw [v2]; exact hkC) (by rw [v2]; exact va_assign hcls) rfl rfl (zdc_eq hd) (fun H1 e1 e2 e3 => ?_)
          · rw [hcq] at h; cases h
          · rw [hcq] at h; cases h
          · rw [hcq]; exact w1
          · rw [hcq, arrV_size]
            exact Nat.not_le.mp fun q => (z_in hjr hj0 hjn) (Or.inr q)
          · rw [z_clamp hjr hj0] at e1 ⊢
            exact kk H1 _ lm (hat.arr h32 g1 (by omega) hj0 (fun q => by omega) (fun _ q => by omega) (zwf_tl (zwf_tl (zwf_tl hw))) hcq (by rw [if_neg (by omega), if_neg (by omega), zcv_ref (by omega), k3]) e1 e2 e3)
        · cases hs
      · cases hs
    · cases hs
  · cases hs
