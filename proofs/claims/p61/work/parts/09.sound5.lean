/-! new cells, statics, texts, Object's constructor -/
theorem zslots_push {S : zHp} {k n : Nat} {H : Int → Int → Int} : zslots (S.1, S.2.1 ++ [(k, n)], H) = zslots S + n := by
  unfold zslots
  show ((S.2.1 ++ [(k, n)]).map Prod.snd).sum = _
  rw [List.map_append, List.sum_append]; rfl
theorem zlen_push {S : zHp} {k n : Nat} : (S.2.1 ++ [(k, n)]).length = S.2.1.length + 1 := by simp
theorem zInv_push {G : zG} {S : zHp} {k n : Nat} {f : Int → Int} (h : zInv G S) (hn : n < 2147483648) (hk : k < 8 ∧ n = znf.getD k 0 ∨ (100 ≤ k ∧ k < 106) ∧ k ≠ 103) (hf : ∀ j : Nat, zrg k j (f j)) : zInv G (S.1, S.2.1 ++ [(k, n)], znew S.2.2 (32 + S.2.1.length) f) := by
  obtain ⟨h1, h2, h3, h4, h5⟩ := h
  have ne : ∀ (a j : Int), a ≠ 32 + S.2.1.length → znew S.2.2 (32 + S.2.1.length) f a j = S.2.2 a j := fun a j q => by unfold znew; rw [if_neg q]
  refine ⟨h1, fun q => ?_, fun q hq => ?_, fun a' q ha1 ha2 => ?_, fun i k' n' hi => ?_⟩
  · show znew _ _ f 0 q = _
    rw [ne _ _ (by omega)]; exact h2 q
  · show znew _ _ f 1 q = _
    rw [ne _ _ (by omega)]; exact h3 q hq
  · show znew _ _ f a' q = _
    rw [ne _ _ (by omega)]; exact h4 a' q ha1 ha2
  · by_cases hl : i < S.2.1.length
    · rw [List.getElem?_append_left hl] at hi
      obtain ⟨g1, g2, g3⟩ := h5 i k' n' hi
      refine ⟨g1, g2, fun q => ?_⟩
      show zrg k' q (znew _ _ f (32 + i) q)
      rw [ne _ _ (by omega)]
      exact g3 q
    · rw [List.getElem?_append_right (by omega)] at hi
      have hz : i - S.2.1.length < 1 := (List.getElem?_eq_some_iff.mp hi).1
      rw [show i - S.2.1.length = 0 by omega] at hi
      cases hi
      refine ⟨hn, hk, fun q => ?_⟩
      show zrg k q (znew _ _ f (32 + i) q)
      have e : (32 + (i : Int)) = 32 + (S.2.1.length : Int) := by omega
      rw [e]
      unfold znew
      rw [if_pos rfl]
      exact hf q
theorem zAt.push {G : zG} {y : Nat} {s : State} {lm : Array Slot} {H H1 : Heap} {locs : List Loc} {ls st st' : List zV} {S : zHp} {k n : Nat} {f : Int → Int} (h : zAt G y s lm H locs ls st S) (hn : n < 2147483648) (hk : k < 8 ∧ n = znf.getD k 0 ∨ (100 ≤ k ∧ k < 106) ∧ k ≠ 103) (hf : ∀ j : Nat, zrg k j (f j)) (hw : ∀ v ∈ st', zwf v)
    (z1 : H1.size = H.size + 1) (o1 : ∀ q, q < H.size → H1[q]? = H[q]?) (e1 : va_at (gD G) vwCl (H.size, zcell G k n f) H1) : zAt G y s lm H1 locs ls st' (S.1, S.2.1 ++ [(k, n)], znew S.2.2 (32 + S.2.1.length) f) := by
  obtain ⟨⟨hsz, hP, hI⟩, hS, h3, h4, h5, -⟩ := h
  refine ⟨⟨?_, ?_, zInv_push hI hn hk hf⟩, ⟨by have := hS.1; omega, fun x g1 g2 => (o1 x (Nat.lt_of_lt_of_le g1 hS.1)).trans (hS.2.1 x g1 g2), hS.2.2⟩, h3, h4, h5, hw⟩
  · show H1.size = gB G + (S.2.1 ++ [(k, n)]).length
    rw [zlen_push, z1, hsz]; omega
  · rw [zws_push]
    refine (hP.kept (fun q x hx => o1 x.1 ((hP q x hx).lt))).app (fun q x hx => ?_)
    have hz : q < 1 := (List.getElem?_eq_some_iff.mp hx).1
    rw [show q = 0 by omega] at hx
    cases hx
    rw [hsz] at e1
    exact e1
def zAty (a : Nat) : ArrayType := match a with
  | 0 => .int
  | 1 => .long
  | 2 => .byte
  | _ => .boolean
def zc_newa : zChk := fun y pc i => i.2.1 == 2 && zdc y pc (.newarray (zAty i.2.2.1)) 2
theorem zw_int : Cond.arrayClass .int ∈ zTs := zw_in (p := 1093) (by decide +kernel)
theorem zw_long : Cond.arrayClass .long ∈ zTs := zw_in (p := 1094) (by decide +kernel)
theorem zw_byte : Cond.arrayClass .byte ∈ zTs := zw_in (p := 3135) (by decide +kernel)
theorem zrg0 (k j : Nat) : zrg k j 0 := ⟨fun _ => r32_0, fun _ => ⟨by decide, by decide⟩⟩
theorem zp_newa : zSound (zs_newa, zc_newa) := by
  intro G y p l e R s m args below meth c H locs Q n0 m0 nF mF cx hRc hRs hRf hRl i pc ls st S lm pc' ls' st' S' hc hs hat hn0 hm0 hnF hmF kk
  obtain ⟨hx, hb, hml, hown, hts, hfix, hnm⟩ := cx
  obtain ⟨op, len, a, b, k, ex⟩ := i
  unfold zs_newa at hs
  dsimp only at hs
  simp only [zc_newa, Bool.and_eq_true, beq_iff_eq] at hc
  obtain ⟨rfl, hd⟩ := hc
  split at hs
  · rename_i nv st1
    split at hs
    · rename_i hif
      obtain ⟨hn0', hnb, ha4⟩ := hif
      cases hs
      have hw := hat.2.2.2.2.2
      have hnr := (zwf_hd hw).1 rfl
      have hcl := z_clamp hnr hn0'
      have hneg : ¬ Int32.ofInt nv < 0 := fun q => (z_in (n := nv.toNat + 1) hnr hn0' (by omega)) (Or.inl q)
      rw [zlen_push] at hnF
      rw [zslots_push] at hmF
      have e1 : (S.2.1 ++ [(100 + a, nv.toNat)]).length - n0 = S.2.1.length - n0 + 1 := by rw [zlen_push]; omega
      have e2 : ∀ HH, zslots (S.1, S.2.1 ++ [(100 + a, nv.toNat)], HH) - m0 = zslots S - m0 + nv.toNat := by intro HH; rw [zslots_push]; omega
      have hsz := hat.1.1
      have hza : zad G (32 + (S.2.1.length : Int)) = H.size := by
        unfold zad
        rw [if_neg (by omega), hsz]; omega
      have KK : ∀ (H' : Heap), H'.size = H.size + 1 → (∀ q, q < H.size → H'[q]? = H[q]?) → va_at (gD G) vwCl (H.size, zcell G (100 + a) nv.toNat (fun _ => 0)) H' → W p l e R s m args below meth c H' locs (S.2.1.length - n0 + 1) (zslots S - m0 + nv.toNat) Q (F0 m (pc + 2) lm (.ref H.size :: st1.map (zcv G))) := by
        intro H' z1 o1 ea
        have K := kk H' locs lm (hat.push (by omega) (Or.inr ⟨⟨by omega, by omega⟩, by omega⟩) (fun j => zrg0 _ _) (zwf_cons (zwfR _) (zwf_tl hw)) z1 o1 ea)
        rw [List.map_cons, zcv_ref (by omega), hza] at K
        dsimp only at K
        rw [e1, e2] at K
        exact K
      rw [List.map_cons, show zcv G (0, nv) = .int (Int32.ofInt nv) from rfl]
      match a, ha4 with
      | 0, _ =>
        refine va_newaK hx hb (atype := .int) (hts _ zw_int) (g := F0 m pc lm (.int (Int32.ofInt nv) :: st1.map (zcv G))) rfl (zdc_eq hd) rfl hneg hcl (by show _ * 4 ≤ _; omega) (by omega) (by omega) rfl (fun H' cA ec z1 o1 hAr hNm => KK H' z1 o1 ?_)
        have hc2 : cA = gA G 0 := Option.some.inj (hNm.symm.trans (hfix.1.2 0 _ rfl).2)
        subst hc2
        rw [zcell_arr (by omega)]
        exact ec
      | 1, _ =>
        refine va_newaK hx hb (atype := .long) (hts _ zw_long) (g := F0 m pc lm (.int (Int32.ofInt nv) :: st1.map (zcv G))) rfl (zdc_eq hd) rfl hneg hcl (by show _ * 8 ≤ _; omega) (by omega) (by omega) rfl (fun H' cA ec z1 o1 hAr hNm => KK H' z1 o1 ?_)
        have hc2 : cA = gA G 1 := Option.some.inj (hNm.symm.trans (hfix.1.2 1 _ rfl).2)
        subst hc2
        rw [zcell_arr (by omega)]
        exact ec
      | 2, _ =>
        refine va_newaK hx hb (atype := .byte) (hts _ zw_byte) (g := F0 m pc lm (.int (Int32.ofInt nv) :: st1.map (zcv G))) rfl (zdc_eq hd) rfl hneg hcl (by show _ * 1 ≤ _; omega) (by omega) (by omega) rfl (fun H' cA ec z1 o1 hAr hNm => KK H' z1 o1 ?_)
        have hc2 : cA = gA G 2 := Option.some.inj (hNm.symm.trans (hfix.1.2 2 _ rfl).2)
        subst hc2
        rw [zcell_arr (by omega)]
        exact ec
      | n + 3, h => omega
    · cases hs
  · cases hs
noncomputable def zc_newq : zChk := fun y pc i => i.2.1 == 3 && zdc y pc (.anewarray i.2.2.2.1) 3 && zw (i.2.2.2.2.2.getD 0 0).toNat (.classLink (zmn y).cls i.2.2.2.1 (if i.2.2.1 = 4 then RX0 else RX4))
theorem zp_newq : zSound (zs_newq, zc_newq) := by
  intro G y p l e R s m args below meth c H locs Q n0 m0 nF mF cx hRc hRs hRf hRl i pc ls st S lm pc' ls' st' S' hc hs hat hn0 hm0 hnF hmF kk
  obtain ⟨hx, hb, hml, hown, hts, hfix, hnm⟩ := cx
  obtain ⟨op, len, a, b, k, ex⟩ := i
  unfold zs_newq at hs
  dsimp only at hs
  simp only [zc_newq, Bool.and_eq_true, beq_iff_eq] at hc
  obtain ⟨⟨rfl, hd⟩, hcw⟩ := hc
  split at hs
  · rename_i nv st1
    split at hs
    · rename_i hif
      obtain ⟨hn0', hnb, ha4⟩ := hif
      cases hs
      have hw := hat.2.2.2.2.2
      have hnr := (zwf_hd hw).1 rfl
      have hcl := z_clamp hnr hn0'
      have hneg : ¬ Int32.ofInt nv < 0 := fun q => (z_in (n := nv.toNat + 1) hnr hn0' (by omega)) (Or.inl q)
      rw [zlen_push] at hnF
      rw [zslots_push] at hmF
      have e1 : (S.2.1 ++ [(100 + a, nv.toNat)]).length - n0 = S.2.1.length - n0 + 1 := by rw [zlen_push]; omega
      have e2 : ∀ HH, zslots (S.1, S.2.1 ++ [(100 + a, nv.toNat)], HH) - m0 = zslots S - m0 + nv.toNat := by intro HH; rw [zslots_push]; omega
      have hsz := hat.1.1
      have hza : zad G (32 + (S.2.1.length : Int)) = H.size := by
        unfold zad
        rw [if_neg (by omega), hsz]; omega
      have KK : ∀ (H' : Heap), H'.size = H.size + 1 → (∀ q, q < H.size → H'[q]? = H[q]?) → va_at (gD G) vwCl (H.size, zcell G (100 + a) nv.toNat (fun _ => -1)) H' → W p l e R s m args below meth c H' locs (S.2.1.length - n0 + 1) (zslots S - m0 + nv.toNat) Q (F0 m (pc + 3) lm (.ref H.size :: st1.map (zcv G))) := by
        intro H' z1 o1 ea
        have K := kk H' locs lm (hat.push (by omega) (Or.inr ⟨⟨by omega, by omega⟩, by omega⟩) (fun j => zrg_arr_of (by omega) (fun q => by omega) (fun _ q => by omega)) (zwf_cons (zwfR _) (zwf_tl hw)) z1 o1 ea)
        rw [List.map_cons, zcv_ref (by omega), hza] at K
        dsimp only at K
        rw [e1, e2] at K
        exact K
      rw [List.map_cons, show zcv G (0, nv) = .int (Int32.ofInt nv) from rfl]
      have key : ∀ (C : String), (zTys G)[a]? = some (gA G a, .object C) → (Cond.classLink (zmn y).cls b C).before args s = true → va_AO C s → W p l e R s m args below meth c H locs (S.2.1.length - n0) (zslots S - m0) Q (F0 m pc lm (.int (Int32.ofInt nv) :: st1.map (zcv G))) := by
        intro C htq hcw2 hao
        refine W.anew hx hb (C := C) hown hcw2 (va_AO.use hao) (g := F0 m pc lm (.int (Int32.ofInt nv) :: st1.map (zcv G))) rfl (zdc_eq hd) rfl hneg (by rw [hcl]; omega) (by omega) (by rw [hcl]; omega) (fun cA kA comp f1 f2 f3 f4 => ?_)
        rw [hcl]
        have hc2 : cA = gA G a := by
          obtain ⟨kA2, comp2, w1, w2, w3, w4⟩ := (hfix.1.2 _ _ htq).2
          exact Option.some.inj (f1.symm.trans w4)
        subst hc2
        refine KK _ (by simp) (fun q hq => by rw [Array.getElem?_push, if_neg (Nat.ne_of_lt hq)]) ?_
        rw [zcell_arr (by omega)]
        show (H.push _)[H.size]? = some (vp_cell (gA G (100 + a - 100)) (nv.toNat, zarr G (100 + a) _))
        rw [zcell_q (by omega), Array.getElem?_push_size, arrV_new, show 100 + a - 100 = a by omega]
        congr 2
        funext q
        rw [if_neg (by omega), if_neg (by omega)]; rfl
      rcases ha4 with rfl | rfl
      · exact key RX0 rfl (hts _ (zw_in hcw)) hfix.2.2.2.2.2.2.2.2.2.2.2.1
      · exact key RX4 rfl (hts _ (zw_in hcw)) hfix.2.2.2.2.2.2.2.2.2.2.2.2.1
    · cases hs
  · cases hs
def zinst : List (Nat × Nat) := [(5, 1118), (2, 1185), (4, 1096), (11, 1051), (5, 1158), (15, 1043), (4, 3140), (4, 4109)]
def zinit : List Nat := [1028, 1030, 1027, 1026, 1029, 1025, 1032, 1033]
def zCn (ci : Nat) : String := (vwCl.getD ci (RX0, TX0, 0)).1
theorem zinst_ok : (List.range 8).all (fun ci => zw (zinst.getD ci (0, 0)).2 (.instantiable (zCn ci) (znf.getD ci 0)) && zw (zinit.getD ci 0) (.initialized (zCn ci))) = true := by decide +kernel
theorem zinst_in {ci : Nat} (h : ci < 8) : Cond.instantiable (zCn ci) (znf.getD ci 0) ∈ zTs ∧ Cond.initialized (zCn ci) ∈ zTs := by
  have := List.all_eq_true.mp zinst_ok ci (List.mem_range.mpr h)
  simp only [Bool.and_eq_true] at this
  exact ⟨zw_in this.1, zw_in this.2⟩
noncomputable def zc_new : zChk := fun y pc i => i.2.1 == 3 && zdc y pc (.new i.2.2.2.1) 3 && zw (i.2.2.2.2.2.getD 0 0).toNat (.classLink (zmn y).cls i.2.2.2.1 (zCn i.2.2.1))
theorem zdef (G : zG) {ty : FieldType} (h : zfok ty = true) : defaultValue ty = zcv G (ztag (zkind ty) (if zkind ty = 2 then -1 else 0)) := by
  rcases zfok_of h with rfl | rfl | rfl | rfl | ⟨n, rfl⟩ | ⟨t, rfl⟩ <;> rfl
theorem zfok_all : (List.range 8).all (fun ci => (List.range (znf.getD ci 0)).all fun k => zfok ((ztys.getD ci tyX0) k)) = true := by decide +kernel
theorem zp_new : zSound (zs_new, zc_new) := by
  intro G y p l e R s m args below meth c H locs Q n0 m0 nF mF cx hRc hRs hRf hRl i pc ls st S lm pc' ls' st' S' hc hs hat hn0 hm0 hnF hmF kk
  obtain ⟨hx, hb, hml, hown, hts, hfix, hnm⟩ := cx
  obtain ⟨op, len, a, b, k, ex⟩ := i
  unfold zs_new at hs
  dsimp only at hs
  simp only [zc_new, Bool.and_eq_true, beq_iff_eq] at hc
  obtain ⟨⟨rfl, hd⟩, hcw⟩ := hc
  split at hs
  · rename_i ha7
    cases hs
    have hw := hat.2.2.2.2.2
    obtain ⟨C, T, N, ty, hCl⟩ := zCl_all ha7
    have hCn : zCn a = C := by unfold zCn; rw [List.getD_eq_getElem?_getD, hCl.1]; rfl
    rw [hCn] at hcw
    obtain ⟨hin1, hin2⟩ := zinst_in ha7
    rw [hCn] at hin1 hin2
    rw [zlen_push] at hnF
    rw [zslots_push] at hmF
    rw [hCl.2.2.2.2.2] at hin1 hmF
    have e1 : (S.2.1 ++ [(a, N)]).length - n0 = S.2.1.length - n0 + 1 := by rw [zlen_push]; omega
    have e2 : ∀ HH, zslots (S.1, S.2.1 ++ [(a, N)], HH) - m0 = zslots S - m0 + N := by intro HH; rw [zslots_push]; omega
    have hsz := hat.1.1
    have hza : zad G (32 + (S.2.1.length : Int)) = H.size := by
      unfold zad
      rw [if_neg (by omega), hsz]; omega
    have hN100 : N < 100 := by
      have := hCl.2.2.2.2.2
      have h7 : ∀ ci, ci < 8 → znf.getD ci 0 < 100 := by decide
      rw [← this]; exact h7 a ha7
    obtain ⟨hS, hfc, kC0, hkC0, hkind⟩ := hfix.1.1 a _ hCl.1
    refine W.newcK hx hb (C := C) (n := N) hown (hts _ (zw_in hcw)) (hts _ hin1) (hts _ hin2) (g := F0 m pc lm (st.map (zcv G))) rfl (zdc_eq hd) (by omega) (by omega) hfc rfl (fun H' kC hkC ec z1 o1 => ?_)
    have hborn := u_born ty hts hCl.2.1 (hfix.1.1 a _ hCl.1) hkC ec hCl.2.2.1
    have ea : va_at (gD G) vwCl (H.size, zcell G a N (fun j => if zft a j.toNat = 2 then -1 else 0)) H' := by
      rw [zcell_obj ha7]
      refine ⟨_, hCl.1, hborn.to (fun j hj => ?_)⟩
      show _ = (List.getD _ j Value.null)
      rw [List.getD_eq_getElem?_getD]
      refine Eq.trans ?_ (congrArg (fun o => Option.getD o Value.null) (zfield_at (G := G) (k := a) (f := fun j : Int => if zft a j.toNat = 2 then -1 else 0) hj)).symm
      show _ = zcv G (ztag (zft a j) (if zft a (j : Int).toNat = 2 then -1 else 0))
      have hfo : zfok (ty j) = true := by
        have h9 := List.all_eq_true.mp zfok_all a (List.mem_range.mpr ha7)
        rw [hCl.2.2.2.2.2, hCl.2.2.2.2.1] at h9
        exact List.all_eq_true.mp h9 j (List.mem_range.mpr hj)
      have hft : zft a j = zkind (ty j) := by unfold zft; rw [hCl.2.2.2.2.1]
      rw [zdef G hfo, show (j : Int).toNat = j from rfl, hft]
    have K := kk H' locs lm (by
      rw [hCl.2.2.2.2.2]
      refine hat.push (k := a) (n := N) (by omega) (Or.inl ⟨ha7, hCl.2.2.2.2.2.symm⟩) (fun j => ?_) (zwf_cons (zwfR _) hw) z1 o1 ea
      unfold zrg zvt
      rw [if_pos (by omega)]
      show ((ztag (zft a j) 0).1 = 0 → r32 (if zft a (j : Int).toNat = 2 then -1 else 0)) ∧ ((ztag (zft a j) 0).1 = 1 → r64 (if zft a (j : Int).toNat = 2 then -1 else 0))
      constructor
      · intro _; split
        · exact ⟨by decide, by decide⟩
        · exact r32_0
      · intro _; split <;> exact ⟨by decide, by decide⟩)
    rw [List.map_cons, zcv_ref (by omega), hza] at K
    dsimp only at K
    rw [hCl.2.2.2.2.2, e1, e2] at K
    exact K
  · cases hs
noncomputable def zc_stat : zChk := fun y pc i => i.2.1 == 3 && zdc y pc (.getstatic i.2.2.2.1) 3 && (match i.2.2.1 with
  | 0 => zw (i.2.2.2.2.2.getD 0 0).toNat (.fieldLink (zmn y).cls i.2.2.2.1 "SumWalker$Primes" "SMALL" "[I")
  | 1 => zw (i.2.2.2.2.2.getD 0 0).toNat (.fieldLink (zmn y).cls i.2.2.2.1 "java/lang/String" "COMPACT_STRINGS" "Z")
  | 3 => zw (i.2.2.2.2.2.getD 0 0).toNat (.fieldLink (zmn y).cls i.2.2.2.1 "SumWalkerLaw" "LAWS" "[Ljava/lang/String;")
  | 4 => zw (i.2.2.2.2.2.getD 0 0).toNat (.fieldLink (zmn y).cls i.2.2.2.1 "java/lang/Integer" "DigitOnes" "[B")
  | 5 => zw (i.2.2.2.2.2.getD 0 0).toNat (.fieldLink (zmn y).cls i.2.2.2.1 "java/lang/Integer" "DigitTens" "[B")
  | _ => zw (i.2.2.2.2.2.getD 0 0).toNat (.fieldLink (zmn y).cls i.2.2.2.1 zFmt.1 zFmt.2.1 zFmt.2.2))
theorem zp_stat : zSound (zs_stat, zc_stat) := by
  intro G y p l e R s m args below meth c H locs Q n0 m0 nF mF cx hRc hRs hRf hRl i pc ls st S lm pc' ls' st' S' hc hs hat hn0 hm0 hnF hmF kk
  obtain ⟨hx, hb, hml, hown, hts, hfix, hnm⟩ := cx
  obtain ⟨op, len, a, b, k, ex⟩ := i
  unfold zs_stat at hs
  dsimp only at hs
  simp only [zc_stat, Bool.and_eq_true, beq_iff_eq] at hc
  obtain ⟨⟨rfl, hd⟩, hcw⟩ := hc
  split at hs
  · cases hs
    exact va_gets hx hb hfix.2.2.2.1 hat.2.1 hown (hts _ (zw_in hcw)) (fun _ h => h) (zdc_eq hd) (kk H locs lm (hat.st (zwf_cons (zwfR _) hat.2.2.2.2.2)))
  · cases hs
    exact va_gets hx hb hfix.2.2.2.2.2.1 hat.2.1 hown (hts _ (zw_in hcw)) (fun _ h => h) (zdc_eq hd) (kk H locs lm (hat.st (zwf_cons (zwfI ⟨by decide, by decide⟩) hat.2.2.2.2.2)))
  · cases hs
    have K := kk H locs lm (hat.st (zwf_cons (zwfR 26) hat.2.2.2.2.2))
    rw [List.map_cons, zcv_ref (by decide), show zad G 26 = gE G 0 from rfl] at K
    exact va_gets hx hb hfix.2.2.2.2.2.2.2.2.2.2.2.2.2.1.1 hat.2.1 hown (hts _ (zw_in hcw)) (fun _ h => h) (zdc_eq hd) K
  · cases hs
    have K := kk H locs lm (hat.st (zwf_cons (zwfR 27) hat.2.2.2.2.2))
    rw [List.map_cons, zcv_ref (by decide), show zad G 27 = gE G 1 from rfl] at K
    exact va_gets hx hb hfix.2.2.2.2.2.2.2.2.2.2.2.2.2.2.1.1 hat.2.1 hown (hts _ (zw_in hcw)) (fun _ h => h) (zdc_eq hd) K
  · cases hs
    have K := kk H locs lm (hat.st (zwf_cons (zwfR 28) hat.2.2.2.2.2))
    rw [List.map_cons, zcv_ref (by decide), show zad G 28 = gE G 2 from rfl] at K
    exact va_gets hx hb hfix.2.2.2.2.2.2.2.2.2.2.2.2.2.2.2.1.1 hat.2.1 hown (hts _ (zw_in hcw)) (fun _ h => h) (zdc_eq hd) K
  · rename_i h0 h1 h3 h4 h5
    cases hs
    have hcw2 : zw (ex.getD 0 0).toNat (.fieldLink (zmn y).cls b zFmt.1 zFmt.2.1 zFmt.2.2) = true := by
      split at hcw
      · exact absurd rfl h0
      · exact absurd rfl h1
      · exact absurd rfl h3
      · exact absurd rfl h4
      · exact absurd rfl h5
      · exact hcw
    exact va_gets hx hb hfix.2.2.2.2.2.2.1 hat.2.1 hown (hts _ (zw_in hcw2)) (fun _ h => h) (zdc_eq hd) (kk H locs lm (hat.st (zwf_cons (zwfO _) hat.2.2.2.2.2)))
def zc_ldcs : zChk := fun y pc i => i.2.1 == 2 && zdc y pc (.ldc i.2.2.2.1) 2 && decide (i.2.2.2.1 = zstrix.getD i.2.2.1 0) && decide ((zmn y).cls = zstrow i.2.2.1)
theorem zp_ldcs : zSound (zs_ldcs, zc_ldcs) := by
  intro G y p l e R s m args below meth c H locs Q n0 m0 nF mF cx hRc hRs hRf hRl i pc ls st S lm pc' ls' st' S' hc hs hat hn0 hm0 hnF hmF kk
  obtain ⟨hx, hb, hml, hown, hts, hfix, hnm⟩ := cx
  obtain ⟨op, len, a, b, k, ex⟩ := i
  unfold zs_ldcs at hs
  dsimp only at hs
  simp only [zc_ldcs, Bool.and_eq_true, beq_iff_eq, decide_eq_true_eq] at hc
  obtain ⟨⟨⟨rfl, hd⟩, hix⟩, hcls⟩ := hc
  split at hs
  · rename_i h8
    cases hs
    have K := kk H locs lm (hat.st (zwf_cons (zwfR _) hat.2.2.2.2.2))
    have hz : zad G (2 + (a : Int)) = gK G a := by
      rw [zad_for (by omega), if_neg (by omega), if_neg (by omega), if_pos (by omega), show ((2 : Int) + a - 2).toNat = a by omega]
    rw [List.map_cons, zcv_ref (by omega), hz] at K
    rw [hcls] at hown
    have hR := hfix.2.2.2.2.2.2.2.2.2.1 a (by omega)
    rw [← hix] at hR
    exact va_ldcS hx hb hown hR (zdc_eq hd) K
  · split at hs
    · rename_i h8 h12
      cases hs
      have K := kk H locs lm (hat.st (zwf_cons (zwfR _) hat.2.2.2.2.2))
      have hz : zad G (10 + (a : Int)) = gK G a := by
        rw [zad_for (by omega), if_neg (by omega), if_neg (by omega), if_neg (by omega), if_neg (by omega), if_pos (by omega), show ((10 : Int) + a - 10).toNat = a by omega]
      rw [List.map_cons, zcv_ref (by omega), hz] at K
      rw [hcls] at hown
      have hR := hfix.2.2.2.2.2.2.2.2.2.1 a h12
      rw [← hix] at hR
      exact va_ldcS hx hb hown hR (zdc_eq hd) K
    · cases hs
noncomputable def zc_obj : zChk := fun y pc i => i.2.1 == 3 && zdc y pc (.invokespecial i.2.2.1) 3 && zw (i.2.2.2.2.2.getD 0 0).toNat (.methodLink (zmn y).cls i.2.2.1 Lib.objectInit)
theorem zw_oi : Cond.instanceMethod Lib.objectInit ∈ zTs ∧ Cond.code Lib.objectInit ⟨#[0xb1]⟩ 1 none ∈ zTs := ⟨zw_in (p := 1048) (by decide +kernel), zw_in (p := 1049) (by decide +kernel)⟩
theorem zp_obj : zSound (zs_obj, zc_obj) := by
  intro G y p l e R s m args below meth c H locs Q n0 m0 nF mF cx hRc hRs hRf hRl i pc ls st S lm pc' ls' st' S' hc hs hat hn0 hm0 hnF hmF kk
  obtain ⟨hx, hb, hml, hown, hts, hfix, hnm⟩ := cx
  obtain ⟨op, len, a, b, k, ex⟩ := i
  have hg := hfix.2.2.2.2.2.2.2.1
  unfold zs_obj at hs
  dsimp only at hs
  simp only [zc_obj, Bool.and_eq_true, beq_iff_eq] at hc
  obtain ⟨⟨rfl, hd⟩, hcw⟩ := hc
  split at hs
  · rename_i av st1
    split at hs
    · rename_i hif
      cases hs
      rw [List.map_cons, zcv_ref (by omega)]
      have hsum : ((st'.map (zcv G)).map fun v => v.category).sum = (st'.map zcat).sum := by
        rw [List.map_map]
        congr 1
        apply List.map_congr_left
        intro v _
        exact zcv_cat G v hg
      refine W.objInit hx hb hown (hts _ (zw_in hcw)) (hts _ zw_oi.1) (hts _ zw_oi.2) (g := F0 m pc lm (.ref (zad G av) :: st'.map (zcv G))) rfl ?_ rfl (zdc_eq hd) hRf ?_ (kk H locs lm (hat.st (zwf_tl hat.2.2.2.2.2)))
      · rw [hml]; exact hat.2.2.1.1
      · have := hif.2
        rw [hsum]
        show 2 * 0 + _ + 12 ≤ R.locals
        omega
    · cases hs
  · cases hs
noncomputable def zc_sget : zChk := fun y pc i => i.2.1 == 3 && zdc y pc (.getfield i.2.2.2.1) 3 && zw (i.2.2.2.2.2.getD 0 0).toNat (.fieldLink (zmn y).cls i.2.2.2.1 "java/lang/String" (if i.2.2.1 = 0 then "value" else "coder") (if i.2.2.1 = 0 then "[B" else "B"))
theorem zp_sget : zSound (zs_sget, zc_sget) := by
  intro G y p l e R s m args below meth c H locs Q n0 m0 nF mF cx hRc hRs hRf hRl i pc ls st S lm pc' ls' st' S' hc hs hat hn0 hm0 hnF hmF kk
  obtain ⟨hx, hb, hml, hown, hts, hfix, hnm⟩ := cx
  obtain ⟨op, len, a, b, k, ex⟩ := i
  unfold zs_sget at hs
  dsimp only at hs
  simp only [zc_sget, Bool.and_eq_true, beq_iff_eq] at hc
  obtain ⟨⟨rfl, hd⟩, hcw⟩ := hc
  have key : ∀ (av w : Int) (st1 : List zV) (i : Nat), st = (2, av) :: st1 → i < 12 → 0 ≤ av → zad G av = gK G i → 0 ≤ w → zad G w = gV G i → some (pc + 3, ls, (if a = 0 then zR w else zI 0) :: st1, S) = some (pc', ls', st', S') → W p l e R s m args below meth c H locs (S.2.1.length - n0) (zslots S - m0) Q (F0 m pc lm (st.map (zcv G))) := by
    intro av w st1 i hst hi hav hz hw hz2 hs2
    subst hst
    simp only [Option.some.injEq, Prod.mk.injEq] at hs2
    obtain ⟨rfl, rfl, rfl, rfl⟩ := hs2
    have hwt := zwf_tl hat.2.2.2.2.2
    rw [List.map_cons, zcv_ref (by omega), hz]
    have hSt := (hfix.2.2.2.2.2.2.2.2.1).1 i hi
    by_cases h0 : a = 0
    · subst h0
      have K := kk H locs lm (hat.st (zwf_cons (by rw [if_pos rfl]; exact zwfR _) hwt))
      rw [if_pos rfl, List.map_cons, zcv_ref (by omega), hz2] at K
      exact vk_getf hx hb hSt.2.2.1 hat.2.1 hown (hts _ (zw_in hcw)) (fun _ h => h) (zdc_eq hd) K
    · have K := kk H locs lm (hat.st (zwf_cons (by rw [if_neg h0]; exact zwfI r32_0) hwt))
      rw [if_neg h0] at K
      rw [if_neg h0, if_neg h0] at hcw
      exact vk_getf hx hb hSt.2.1 hat.2.1 hown (hts _ (zw_in hcw)) (fun _ h => h) (zdc_eq hd) K
  split at hs
  · rename_i av st1
    split at hs
    · rename_i hif
      refine key av (av + 8) st1 (av - 2).toNat rfl (by omega) (by omega) ?_ (by omega) ?_ hs
      · rw [zad_for (by omega), if_neg (by omega), if_neg (by omega), if_pos (by omega)]
      · rw [zad_for (by omega), if_neg (by omega), if_neg (by omega), if_neg (by omega), if_pos (by omega), show (av + 8 - 10).toNat = (av - 2).toNat by omega]
    · split at hs
      · rename_i hif
        refine key av (av + 4) st1 (av - 10).toNat rfl (by omega) (by omega) ?_ (by omega) ?_ hs
        · rw [zad_for (by omega), if_neg (by omega), if_neg (by omega), if_neg (by omega), if_neg (by omega), if_pos (by omega)]
        · rw [zad_for (by omega), if_neg (by omega), if_neg (by omega), if_neg (by omega), if_neg (by omega), if_neg (by omega), if_pos (by omega), show (av + 4 - 14).toNat = (av - 10).toNat by omega]
      · split at hs
        · rename_i c1 n1 hsh
          split at hs
          · rename_i hif
            obtain ⟨rfl, rfl, h32⟩ := hif
            cases hs
            obtain ⟨C, T, N, ty, hCl⟩ := zCl_all (ci := 7) (by decide)
            obtain ⟨g1, g2, g3⟩ := zsh_own (G := G) h32 hsh
            obtain ⟨hsz, hP, hI⟩ := hat.1
            obtain ⟨-, hkn, hrg⟩ := hI.2.2.2.2 _ _ _ g1
            have hget := zws_get (G := G) g1
            rw [zcell_obj (by decide), ← g2, ← g3] at hget
            have hrg1 := hrg 1
            rw [← g2] at hrg1
            have hwt := zwf_tl hat.2.2.2.2.2
            rw [List.map_cons, zcv_ref (by omega)]
            by_cases h0 : a = 0
            · subst h0
              have K := kk H locs lm (hat.st (zwf_cons (by rw [if_pos rfl]; exact zwfR _) hwt))
              rw [if_pos rfl] at K
              exact va_get hx hb hts zu7 hown hfix.1 hP _ hget rfl 0 (by decide) (hts _ (zw_in hcw)) (fun _ h => h) (zfield_at (G := G) (k := 7) (f := S.2.2 av) (by decide)) (zdc_eq hd) K
            · have K := kk H locs lm (hat.st (zwf_cons (by rw [if_neg h0]; exact zwfI (hrg1.1 rfl)) hwt))
              rw [if_neg h0] at K
              rw [if_neg h0, if_neg h0] at hcw
              exact va_get hx hb hts zu7 hown hfix.1 hP _ hget rfl 1 (by decide) (hts _ (zw_in hcw)) (fun _ h => h) (zfield_at (G := G) (k := 7) (f := S.2.2 av) (by decide)) (zdc_eq hd) K
          · cases hs
        · cases hs
  · cases hs
theorem zsum_cat (G : zG) (hg : gf G = .null ∨ ∃ t, gf G = .ref t) (st : List zV) : ((st.map (zcv G)).map fun v => v.category).sum = (st.map zcat).sum := by
  rw [List.map_map]
  congr 1
  apply List.map_congr_left
  intro v _
  exact zcv_cat G v hg
theorem zw_math : (Cond.initialized "java/lang/Math" ∈ zTs) ∧ (Cond.static Lib.Math.max.name ∈ zTs ∧ Cond.code Lib.Math.max.name Lib.Math.max.code 2 (some .int) ∈ zTs) ∧ (Cond.static Lib.Math.min.name ∈ zTs ∧ Cond.code Lib.Math.min.name Lib.Math.min.code 2 (some .int) ∈ zTs) ∧ (Cond.static Lib.MathLoose.max_long.x ∈ zTs ∧ Cond.code Lib.MathLoose.max_long.x Lib.MathLoose.max_long.code 4 (some .long) ∈ zTs) :=
  ⟨zw_in (p := 1036) (by decide +kernel), ⟨zw_in (p := 2154) (by decide +kernel), zw_in (p := 2155) (by decide +kernel)⟩, ⟨zw_in (p := 2271) (by decide +kernel), zw_in (p := 2272) (by decide +kernel)⟩, ⟨zw_in (p := 2144) (by decide +kernel), zw_in (p := 2145) (by decide +kernel)⟩⟩
noncomputable def zc_math : Nat → zChk := fun q y pc i => i.2.1 == 3 && zdc y pc (.invokestatic i.2.2.1) 3 && zw (i.2.2.2.2.2.getD 0 0).toNat (.methodLink (zmn y).cls i.2.2.1 (match q with
  | 0 => Lib.Math.max.name
  | 1 => Lib.Math.min.name
  | _ => Lib.MathLoose.max_long.x))
theorem zp_math (q : Nat) : zSound (zs_math q, zc_math q) := by
  intro G y p l e R s m args below meth c H locs Q n0 m0 nF mF cx hRc hRs hRf hRl i pc ls st S lm pc' ls' st' S' hc hs hat hn0 hm0 hnF hmF kk
  obtain ⟨hx, hb, hml, hown, hts, hfix, hnm⟩ := cx
  obtain ⟨op, len, a, b, k, ex⟩ := i
  have hg := hfix.2.2.2.2.2.2.2.1
  unfold zs_math at hs
  dsimp only at hs
  simp only [zc_math, Bool.and_eq_true, beq_iff_eq] at hc
  obtain ⟨⟨rfl, hd⟩, hcw⟩ := hc
  have hm2 : c.maxLocals = lm.size := by rw [hml]; exact hat.2.2.1.1.symm
  have hw := hat.2.2.2.2.2
  obtain ⟨w0, ⟨w1, w2⟩, ⟨w3, w4⟩, ⟨w5, w6⟩⟩ := zw_math
  split at hs
  · rename_i yv xv st1
    split at hs
    · rename_i hsm
      cases hs
      have hry := (zwf_hd hw).1 rfl
      have hrx := (zwf_hd (zwf_tl hw)).1 rfl
      have K := kk H locs lm (hat.st (zwf_cons (zwfI (by split <;> assumption)) (zwf_tl (zwf_tl hw))))
      have ee : zcv G (zI (if xv < yv then yv else xv)) = .int (if Int32.ofInt xv < Int32.ofInt yv then Int32.ofInt yv else Int32.ofInt xv) := by
        by_cases h : xv < yv
        · rw [if_pos h, if_pos ((z32_lt hrx hry).mpr h)]; rfl
        · rw [if_neg h, if_neg (fun z => h ((z32_lt hrx hry).mp z))]; rfl
      rw [List.map_cons, ee] at K
      rw [List.map_cons, List.map_cons, show zcv G (0, yv) = .int (Int32.ofInt yv) from rfl, show zcv G (0, xv) = .int (Int32.ofInt xv) from rfl]
      exact va_mmax hx hb hm2 hown (hts _ (zw_in hcw)) (hts _ w1) (hts _ w0) (hts _ w2) hRf (by rw [zsum_cat G hg]; omega) (by omega) (by omega) (zdc_eq hd) K
    · cases hs
  · rename_i yv xv st1
    split at hs
    · rename_i hsm
      cases hs
      have hry := (zwf_hd hw).1 rfl
      have hrx := (zwf_hd (zwf_tl hw)).1 rfl
      have K := kk H locs lm (hat.st (zwf_cons (zwfI (by split <;> assumption)) (zwf_tl (zwf_tl hw))))
      have ee : zcv G (zI (if yv < xv then yv else xv)) = .int (if Int32.ofInt yv < Int32.ofInt xv then Int32.ofInt yv else Int32.ofInt xv) := by
        by_cases h : yv < xv
        · rw [if_pos h, if_pos ((z32_lt hry hrx).mpr h)]; rfl
        · rw [if_neg h, if_neg (fun z => h ((z32_lt hry hrx).mp z))]; rfl
      rw [List.map_cons, ee] at K
      rw [List.map_cons, List.map_cons, show zcv G (0, yv) = .int (Int32.ofInt yv) from rfl, show zcv G (0, xv) = .int (Int32.ofInt xv) from rfl]
      exact va_mmin hx hb hm2 hown (hts _ (zw_in hcw)) (hts _ w3) (hts _ w0) (hts _ w4) hRf (by rw [zsum_cat G hg]; omega) (by omega) (by omega) (zdc_eq hd) K
    · cases hs
  · rename_i yv xv st1
    split at hs
    · rename_i hsm
      cases hs
      have hry := (zwf_hd hw).2 rfl
      have hrx := (zwf_hd (zwf_tl hw)).2 rfl
      have K := kk H locs lm (hat.st (zwf_cons (zwfL (by split <;> assumption)) (zwf_tl (zwf_tl hw))))
      have ee : zcv G (zL (if yv < xv then xv else yv)) = .long (if Int64.ofInt yv < Int64.ofInt xv then Int64.ofInt xv else Int64.ofInt yv) := by
        by_cases h : yv < xv
        · rw [if_pos h, if_pos ((z64_lt hry hrx).mpr h)]; rfl
        · rw [if_neg h, if_neg (fun z => h ((z64_lt hry hrx).mp z))]; rfl
      rw [List.map_cons, ee] at K
      rw [List.map_cons, List.map_cons, show zcv G (1, yv) = .long (Int64.ofInt yv) from rfl, show zcv G (1, xv) = .long (Int64.ofInt xv) from rfl]
      exact va_mmax_long hx hb hm2 hown (hts _ (zw_in hcw)) (hts _ w5) (hts _ w0) (hts _ w6) hRf (by rw [zsum_cat G hg]; omega) (by omega) (by omega) (zdc_eq hd) K
    · cases hs
  · cases hs
-- copies of bytes
theorem zws_up2 {G : zG} {S : zHp} {a : Int} {k n : Nat} {H' : Int → Int → Int} (ha : 32 ≤ a) (h : S.2.1[(a - 32).toNat]? = some (k, n)) (hne : ∀ a' : Int, a' ≠ a → H' a' = S.2.2 a') :
    zws G (S.1, S.2.1, H') = (zws G S).set (a - 32).toNat (gB G + (a - 32).toNat, zcell G k n (H' a)) := by
  have hl : (a - 32).toNat < S.2.1.length := (List.getElem?_eq_some_iff.mp h).1
  apply List.ext_getElem?
  intro q
  rw [List.getElem?_set, zws_len, if_pos hl]
  by_cases hq : (a - 32).toNat = q
  · subst hq
    rw [if_pos rfl]
    refine (zws_get (G := G) (S := (S.1, S.2.1, H')) (k := k) (n := n) h).trans ?_
    rw [show (32 : Int) + ((a - 32).toNat : Int) = a by omega]
  · rw [if_neg hq]
    unfold zws
    rw [List.getElem?_map, List.getElem?_map]
    by_cases hq2 : q < S.2.1.length
    · rw [List.getElem?_range hq2]
      show some (gB G + q, zcell G _ _ (H' (32 + (q : Int)))) = some (gB G + q, zcell G _ _ (S.2.2 (32 + (q : Int))))
      rw [hne _ (by omega)]
    · have e1 : (List.range S.2.1.length)[q]? = none := by simp; omega
      show Option.map _ ((List.range S.2.1.length)[q]?) = _
      rw [e1]; rfl
theorem zcpy_ne {H : Int → Int → Int} {b p n : Int} {f : Int → Int} {a' : Int} (h : a' ≠ b) : zcpy H b p n f a' = H a' := by
  funext j
  unfold zcpy
  rw [if_neg (fun q => h q.1)]
theorem zInv_cpy {G : zG} {S : zHp} {b p m : Int} {f : Int → Int} {n : Nat} (h : zInv G S) (hb : 32 ≤ b) (hs : S.2.1[(b - 32).toNat]? = some (102, n)) (hf : ∀ k : Int, 0 ≤ k → k < m → r32 (f k)) : zInv G (S.1, S.2.1, zcpy S.2.2 b p m f) := by
  obtain ⟨h1, h2, h3, h4, h5⟩ := h
  refine ⟨h1, fun q => ?_, fun q hq => ?_, fun a' q ha1 ha2 => ?_, fun i k' n' hi => ?_⟩
  · show zcpy S.2.2 b p m f 0 q = _
    rw [zcpy_ne (by omega)]; exact h2 q
  · show zcpy S.2.2 b p m f 1 q = _
    rw [zcpy_ne (by omega)]; exact h3 q hq
  · show zcpy S.2.2 b p m f a' q = _
    rw [zcpy_ne (by omega)]; exact h4 a' q ha1 ha2
  · obtain ⟨g1, g2, g3⟩ := h5 i k' n' hi
    refine ⟨g1, g2, fun q => ?_⟩
    show zrg k' q (zcpy S.2.2 b p m f (32 + i) q)
    by_cases hc : 32 + (i : Int) = b
    · have hi2 : i = (b - 32).toNat := by omega
      subst hi2
      cases hs.symm.trans hi
      unfold zcpy
      split
      · rename_i hp
        exact zrg_arr_of (by decide) (fun q => absurd q (by decide)) (fun _ _ => hf _ (by omega) (by omega))
      · exact g3 q
    · rw [zcpy_ne hc]; exact g3 q
theorem zw_ac : (Cond.static arraycopyName ∈ zTs ∧ Cond.native arraycopyName ∈ zTs) ∧ Cond.initialized "java/lang/System" ∈ zTs := ⟨⟨zw_in (p := 3205) (by decide +kernel), zw_in (p := 3206) (by decide +kernel)⟩, zw_in (p := 1038) (by decide +kernel)⟩
section ZCP
variable {p : Program} {l : Launch} {e : Env} {R : Room} {s : State} {m : MethodId} {args : Array Value} {below : List Frame} {meth : Method} {c : Code} {H : Heap} {locs : List Loc} {cells slots : Nat} {Q : State → Prop}
theorem z_copyB {pc : Nat} {lm : Array Slot} (hx : p.tables.exec = Jvm.exec) (hml : c.maxLocals = lm.size) {own : String} {index : Nat} (hown : s.vm.findClass own = some m.cls) (hlink : (Cond.methodLink own index arraycopyName).before args s = true) (hnat : (Cond.native arraycopyName).before args s = true) (hstat : (Cond.static arraycopyName).before args s = true) (hini : (Cond.initialized "java/lang/System").before args s = true)
    {b0 a n0 n1 : Nat} {cs : Cell} {cA : ClassId} {f g : Nat → Int32} (hc0 : H[b0]? = some cs) (hs6 : ∀ k, cs.vm ≠ .statics k) (hs3 : cs.vm ≠ .unknown) {k0 : Class} {cm0 : ClassId} (hk0 : s.vm.classes[cs.cls]? = some k0) (hkk0 : k0.kind = .array cm0 .byte) (hsz : n0 ≤ cs.slots.size) (hval : ∀ j, j < n0 → cs.slots[j]? = some (.int (f j)))
    (hc1 : H[a]? = some (vp_cell cA (n1, .inl g))) {k1 : Class} {cm1 : ClassId} (hk1 : s.vm.classes[cA]? = some k1) (hkk1 : k1.kind = .array cm1 .byte)
    {sp dp n : Int32} (h1 : ¬ sp < 0) (h2 : ¬ dp < 0) (h3 : ¬ n < 0) (h4 : sp.toNatClampNeg + n.toNatClampNeg ≤ n0) (h5 : dp.toNatClampNeg + n.toNatClampNeg ≤ n1) (hfit : ∀ i : Nat, i < n.toNatClampNeg → fits .byte (.int (f (sp.toNatClampNeg + i))) = true)
    (hframes : 1 ≤ R.frames) (hlocals : 24 ≤ R.locals) (hdg : decode c.code pc = .ok (.invokestatic index, 3))
    (kk : ∀ (H1 : Heap) (L : List Loc), (∀ q ∈ L, q.base = a) → H1.size = H.size → H1[a]? = some (vp_cell cA (n1, .inl (va_cpy f g sp.toNatClampNeg dp.toNatClampNeg n.toNatClampNeg))) → (∀ q, q ≠ a → H1[q]? = H[q]?) → W p l e R s m args below meth c H1 (locs ++ L) cells slots Q (F0 m (pc + 3) lm [])) : W p l e R s m args below meth c H locs cells slots Q (F0 m pc lm [.int n, .int dp, .ref a, .int sp, .ref b0]) := by
  have nn : ∀ z : Int32, ¬ z < 0 → z.toInt = (z.toNatClampNeg : Int) := by
    intro z hz
    have hz0 : (0 : Int) ≤ z.toInt := by
      have := Int32.not_lt.mp hz
      simpa using Int32.le_iff_toInt_le.mp this
    show z.toInt = ((z.toInt.toNat : Nat) : Int)
    omega
  intro T hT X
  obtain ⟨vm', X', step⟩ := X.arraycopy hx hown hlink hnat hstat hini (src := b0) (dst := a) (cs := cs) (cd := vp_cell cA (n1, .inl g)) (srcPos := sp) (destPos := dp) (n := n) (by rw [hT]; exact hc0) (by rw [hT]; exact hc1)
    hs6 (fun _ h => by cases h) hs3 (fun h => by cases h) hk0 hk1 hkk0 hkk1 (by simp [refKind]) h1 h2 h3
    (by rw [nn sp h1, nn n h3]; omega)
    (by rw [nn dp h2, nn n h3]; show ¬ _ > ((arrV cA n1 (fun j => .int (g j))).slots.size : Int); rw [arrV_size]; omega)
    (fun vm₁ _ i hi => by
      have e : cs.slots.getD (sp.toNatClampNeg + i) .null = .int (f (sp.toNatClampNeg + i)) := by
        rw [Array.getD_eq_getD_getElem?, hval _ (by omega)]
        rfl
      refine ⟨?_, ?_⟩
      · rw [e]
        exact hfit i hi
      · rw [e]
        exact trivial)
    (g := F0 m pc lm [.int n, .int dp, .ref a, .int sp, .ref b0]) rfl (by rw [hml]) (rest := []) rfl hdg hframes (by show 2 * 0 + 0 + 18 ≤ _; omega)
  have e1 : copied cs (vp_cell cA (n1, .inl g)) sp dp n = vp_cell cA (n1, .inl (va_cpy f g sp.toNatClampNeg dp.toNatClampNeg n.toNatClampNeg)) := va_copiedX (fun z => .int z) cs cA f g hval h4
  rw [e1] at X' step
  have hl : a < H.size := (Array.getElem?_eq_some_iff.mp hc1).1
  obtain ⟨t, a1, b1⟩ := kk (H.setIfInBounds a (vp_cell cA (n1, .inl (va_cpy f g sp.toNatClampNeg dp.toNatClampNeg n.toNatClampNeg)))) _ (fun q hq => by
      obtain ⟨z, -, hz⟩ := List.mem_map.mp hq
      rw [← hz]) (by simp) (by simp [Array.getElem?_setIfInBounds, hl]) (fun q hq => by simp [Array.getElem?_setIfInBounds, Ne.symm hq]) ((T.setVm vm').setCell a (vp_cell cA (n1, .inl (va_cpy f g sp.toNatClampNeg dp.toNatClampNeg n.toNatClampNeg)))) (by rw [← hT]; rfl) X'
  exact ⟨t, step t a1, b1⟩
theorem z_cloneB {pc : Nat} {lm : Array Slot} {rest : List Value} (hx : p.tables.exec = Jvm.exec) (hml : c.maxLocals = lm.size) {own : String} {index : Nat} (hown : s.vm.findClass own = some m.cls) (hlink : (Cond.methodLink own index ⟨"[B", "clone", "()Ljava/lang/Object;"⟩).before args s = true) (hsame : (Cond.sameMethod "[B" "java/lang/Object" "clone" "()Ljava/lang/Object;").before args s = true)
    (hnat : (Cond.native ⟨"java/lang/Object", "clone", "()Ljava/lang/Object;"⟩).before args s = true) (hinst : (Cond.instanceMethod ⟨"java/lang/Object", "clone", "()Ljava/lang/Object;"⟩).before args s = true)
    (hsel : (Cond.selects "[B" ⟨"[B", "clone", "()Ljava/lang/Object;"⟩ ⟨"java/lang/Object", "clone", "()Ljava/lang/Object;"⟩).before args s = true) (hcl : va_Nw zCln s)
    {a n : Nat} {cA : ClassId} {f : Nat → Int32} (hc1 : H[a]? = some (vp_cell cA (n, .inl f))) {k1 : Class} {cm1 : ClassId} (hk1 : s.vm.classes[cA]? = some k1) (hkk1 : k1.kind = .array cm1 .byte) (hnm : s.vm.findClass "[B" = some cA) (hfit : ∀ i : Nat, i < n → fits .byte (.int (f i)) = true)
    (hframes : 1 ≤ R.frames) (hlocals : (rest.map fun v => v.category).sum + 14 ≤ R.locals) (hcells : cells + 1 ≤ R.cells) (hslots : slots + n ≤ R.slots) (hdg : decode c.code pc = .ok (.invokevirtual index, 3))
    (kk : ∀ H1 : Heap, H1.size = H.size + 1 → H1[H.size]? = some (vp_cell cA (n, .inl f)) → (∀ q, q < H.size → H1[q]? = H[q]?) → W p l e R s m args below meth c H1 locs (cells + 1) (slots + n) Q (F0 m (pc + 3) lm (.ref H.size :: rest))) : W p l e R s m args below meth c H locs cells slots Q (F0 m pc lm (.ref a :: rest)) := by
  have hsz : (vp_cell cA (n, .inl f)).slots.size = n := arrV_size _ _ _
  obtain ⟨c0, t0', f1, f2, f3⟩ := Cond.castable_spec (va_Nw.use (A := args) rfl hcl)
  cases hnm.symm.trans f1
  intro T hT X
  obtain ⟨vm', X', st⟩ := X.cloneArray hx hown hlink hsame hnat hinst hsel (a := a) (cell := vp_cell cA (n, .inl f)) (by rw [hT]; exact hc1) (fun k h => by cases h) (fun h => by cases h) hnm f2 f3
    (fun i v hv => by
      obtain ⟨-, -, hall⟩ := X.warmed.alike
      obtain ⟨k1', hk1', he⟩ := hall _ _ hk1
      have hk' : T.vm.classes[cA]? = some k1' := hk1'
      have hkind : k1'.kind = .array cm1 .byte := by rw [he]; exact hkk1
      have := va_fit (cA := cA) (n := n) (F := fun j => .int (f j)) (ty := .byte) hfit i v hv
      show T.fitsSlot cA .none i v = true
      simpa [State.fitsSlot, State.slotType?, hk', hkind] using this)
    (g := F0 m pc lm (.ref a :: rest)) rfl (by rw [hml]) rfl hdg hframes (by show 2 * 0 + _ + 14 ≤ _; omega) hcells (by rw [hsz]; exact hslots) (hloader := Vm.clonesLoader_of_array hk1 hkk1)
  rw [hsz] at X'
  obtain ⟨t, b1, b2⟩ := kk (H.push (vp_cell cA (n, .inl f))) (by rw [Array.size_push]) (by rw [Array.getElem?_push_size]) (fun q hq => by rw [Array.getElem?_push, if_neg (Nat.ne_of_lt hq)]) ((T.setVm vm').pushCell (vp_cell cA (n, .inl f))) (by rw [← hT]; rfl) X'
  refine ⟨t, st t ?_, b2⟩
  rw [hT]
  exact b1
end ZCP
noncomputable def zc_acopy : zChk := fun y pc i => i.2.1 == 3 && zdc y pc (.invokestatic i.2.2.1) 3 && zw (i.2.2.2.2.2.getD 0 0).toNat (.methodLink (zmn y).cls i.2.2.1 arraycopyName)
theorem zp_acopy : zSound (zs_acopy, zc_acopy) := by
  intro G y p l e R s m args below meth c H locs Q n0 m0 nF mF cx hRc hRs hRf hRl i pc ls st S lm pc' ls' st' S' hc hs hat hn0 hm0 hnF hmF kk
  obtain ⟨hx, hb, hml, hown, hts, hfix, hnm⟩ := cx
  obtain ⟨op, len, a, b, k, ex⟩ := i
  unfold zs_acopy at hs
  dsimp only at hs
  simp only [zc_acopy, Bool.and_eq_true, beq_iff_eq] at hc
  obtain ⟨⟨rfl, hd⟩, hcw⟩ := hc
  obtain ⟨⟨w1, w2⟩, w3⟩ := zw_ac
  split at hs
  · rename_i nv dv bv sv av
    split at hs
    · rename_i c1 n1 c2 n2 hsh hsh2
      split at hs
      · rename_i hif
        obtain ⟨hsrc, rfl, hb32, hsp, hdp, hn, hsn, hdn, hall⟩ := hif
        cases hs
        have hw := hat.2.2.2.2.2
        have rn := (zwf_hd hw).1 rfl
        have rd := (zwf_hd (zwf_tl hw)).1 rfl
        have rs := (zwf_hd (zwf_tl (zwf_tl (zwf_tl hw)))).1 rfl
        obtain ⟨g1, g2, g3⟩ := zsh_own (G := G) hb32 hsh2
        obtain ⟨hsz, hP, hI⟩ := id hat.1
        have hget := zws_get (G := G) g1
        rw [zcell_arr (by decide), ← g2, zarr_i (by decide) (by decide)] at hget
        have hcd : H[zad G bv]? = some (vp_cell (gA G 2) (n2, .inl fun j : Nat => Int32.ofInt (S.2.2 bv j))) := by
          rw [g3]; exact hP _ _ hget
        obtain ⟨-, k1, hk1, cm1, hkk1⟩ := (hfix.1.2 2 _ rfl).1 n2 (fun j => .int (Int32.ofInt (S.2.2 bv j)))
        have hb8 : ∀ k : Int, 0 ≤ k → k < nv → zb8 (S.2.2 av (sv + k)) = true := fun k h0 h1 => by
          have := List.all_eq_true.mp hall k.toNat (List.mem_range.mpr (by omega))
          rwa [show ((k.toNat : Nat) : Int) = k by omega] at this
        have cn := z_clamp rn hn
        have cd := z_clamp rd hdp
        have cs := z_clamp rs hsp
        have KK : ∀ (H1 : Heap) (L : List Loc), (∀ q ∈ L, q.base = zad G bv) → H1.size = H.size → H1[zad G bv]? = some (vp_cell (gA G 2) (n2, .inl (va_cpy (fun j : Nat => Int32.ofInt (S.2.2 av j)) (fun j : Nat => Int32.ofInt (S.2.2 bv j)) (Int32.ofInt sv).toNatClampNeg (Int32.ofInt dv).toNatClampNeg (Int32.ofInt nv).toNatClampNeg))) → (∀ q, q ≠ zad G bv → H1[q]? = H[q]?) → W p l e R s m args below meth c H1 (locs ++ L) (S.2.1.length - n0) (zslots S - m0) Q (F0 m (pc + 3) lm []) := by
          intro H1 L hL z1 e1 o1
          have hst : zAt G y s lm H1 (locs ++ L) ls [] (S.1, S.2.1, zcpy S.2.2 bv dv nv (fun k => S.2.2 av (sv + k))) := by
            refine ⟨⟨by rw [z1]; exact hsz, ?_, zInv_cpy hI hb32 g1 (fun k h0 h1 => by have := zb8_r (hb8 k h0 h1); exact ⟨by omega, by omega⟩)⟩, ⟨by rw [z1]; exact hat.2.1.1, fun q h1 h2 => ?_, fun q hq => ?_⟩, hat.2.2.1, hat.2.2.2.1, hat.2.2.2.2.1, fun v hv => by cases hv⟩
            · rw [zws_up2 hb32 g1 (fun a' h => zcpy_ne h), zcell_arr (by decide), zarr_i (by decide) (by decide)]
              refine hP.set (zws_D G S) hget ?_ (by rw [← g3]; exact o1)
              show H1[gB G + (bv - 32).toNat]? = some (vp_cell _ _)
              rw [← g3, e1]
              congr 3
              congr 1
              funext j
              unfold va_cpy zcpy
              rw [cn, cd, cs]
              by_cases h : dv.toNat ≤ j ∧ j < dv.toNat + nv.toNat
              · rw [if_pos h, if_pos ⟨rfl, by omega, by omega⟩]
                show Int32.ofInt (S.2.2 av ((sv.toNat + (j - dv.toNat) : Nat) : Int)) = Int32.ofInt (S.2.2 av (sv + ((j : Int) - dv)))
                rw [show ((sv.toNat + (j - dv.toNat) : Nat) : Int) = sv + ((j : Int) - dv) by omega]
              · rw [if_neg h, if_neg (fun q => h ⟨by omega, by omega⟩)]
            · rw [o1 q (fun e => h2 (by rw [e, g3]; show gB G ≤ _; omega))]
              exact hat.2.1.2.1 q h1 h2
            · rcases List.mem_append.mp hq with h | h
              · exact hat.2.1.2.2 q h
              · rw [hL q h, g3]; show gB G ≤ _; omega
          exact kk H1 (locs ++ L) lm hst
        have hm2 : c.maxLocals = lm.size := by rw [hml]; exact hat.2.2.1.1.symm
        rw [show List.map (zcv G) [((0, nv) : zV), (0, dv), (2, bv), (0, sv), (2, av)] = [.int (Int32.ofInt nv), .int (Int32.ofInt dv), zcv G (2, bv), .int (Int32.ofInt sv), zcv G (2, av)] from rfl, zcv_ref (x := bv) (by omega)]
        have ng : ∀ x : Int, r32 x → 0 ≤ x → ¬ Int32.ofInt x < 0 := fun x hr h0 q => by
          rw [← z32_0, z32_lt hr r32_0] at q; omega
        rcases hsrc with ⟨rfl, ha32⟩ | rfl
        · obtain ⟨k1', k2, k3⟩ := zsh_own (G := G) ha32 hsh
          have hget0 := zws_get (G := G) k1'
          rw [zcell_arr (by decide), ← k2, zarr_i (by decide) (by decide)] at hget0
          rw [zcv_ref (x := av) (by omega)]
          obtain ⟨hno, k0, hk0, cm0, hkk0⟩ := (hfix.1.2 2 _ rfl).1 n1 (fun j => .int (Int32.ofInt (S.2.2 av j)))
          exact z_copyB (n0 := n1) (cs := vp_cell (gA G 2) (n1, .inl fun j : Nat => Int32.ofInt (S.2.2 av j))) (f := fun j : Nat => Int32.ofInt (S.2.2 av j)) hx hm2 hown (hts _ (zw_in hcw)) (hts _ w2) (hts _ w1) (hts _ w3) (by rw [k3]; exact hP _ _ hget0) (fun k h => by cases h) (fun h => by cases h) hk0 hkk0 (by show n1 ≤ (arrV _ _ _).slots.size; rw [arrV_size]; exact Nat.le_refl _) (fun j hj => by show (arrV _ _ _).slots[j]? = _; rw [arrV_read _ _ hj]) hcd hk1 hkk1 (ng _ rs hsp) (ng _ rd hdp) (ng _ rn hn) (by rw [cs, cn]; omega) (by rw [cd, cn]; omega)
            (fun i hi => by
              rw [cs]
              rw [cn] at hi
              have := zb8_f (hb8 i (by omega) (by omega))
              rwa [show sv + (i : Int) = ((sv.toNat + i : Nat) : Int) by omega] at this) hRf hRl (by rw [hb]; exact zdc_eq hd) KK
        · have ha32 : av < 32 := by
            rcases Int.lt_or_le av 32 with q | q
            · exact q
            · obtain ⟨k1', k2, k3⟩ := zsh_own (G := G) q hsh
              have := (hI.2.2.2.2 _ _ _ k1').2.1
              omega
          obtain ⟨i, hi, rfl, rfl⟩ : ∃ i : Nat, i < 12 ∧ av = zbc i ∧ n1 = (zstrs.getD i []).length := by
            rcases zfor_arr hsh ha32 (by decide) with ⟨-, h, -⟩ | ⟨-, h, -⟩ | ⟨i, hi, h1, -, h2⟩ | ⟨-, h, -⟩ | ⟨-, h, -⟩
            · cases h
            · cases h
            · exact ⟨i, hi, h1, h2⟩
            · cases h
            · cases h
          have hbc := zad_bc (G := G) hi
          rw [zcv_ref (x := zbc i) (by omega), hbc.1]
          have hl8 : (zstrs.getD i []).length < 100 := by
            have : ∀ j, j < 12 → (zstrs.getD j []).length < 100 := by decide
            exact this i hi
          obtain ⟨scr, hs1, hs2, hs3, hs4, -, hs5, hs7⟩ := (hfix.2.2.2.2.2.2.2.2.1).1 i hi |>.2.2.2
          obtain ⟨hs6, k0, hk0, cm0, hkk0⟩ := hs2
          have hc0 : H[gV G i]? = some scr := by rw [hat.2.1.2.1 _ (Array.getElem?_eq_some_iff.mp hs1).1 hs7]; exact hs1
          rw [zstr_len hi] at hs4 hs5
          have hsc : ∀ j : Int, 0 ≤ j → S.2.2 (zbc i) j = (zstrs.getD i []).getD j.toNat 0 := fun j hj => (hI.cn hbc.2.2.2 hbc.2.2.1 hj).trans (zcn_bc hi j)
          exact z_copyB (n0 := (zstrs.getD i []).length) (cs := scr) (f := fun j : Nat => Int32.ofInt (S.2.2 (zbc i) j)) hx hm2 hown (hts _ (zw_in hcw)) (hts _ w2) (hts _ w1) (hts _ w3) hc0 hs6 hs3 hk0 hkk0 hs4 (fun j hj => (hs5 j hj).trans (by show some (Value.int _) = some (Value.int _); rw [(zstr_r i hi j (by omega)).2, hsc _ (by omega)]; rfl)) hcd hk1 hkk1 (ng _ rs hsp) (ng _ rd hdp) (ng _ rn hn) (by rw [cs, cn]; omega) (by rw [cd, cn]; omega)
            (fun i' hi' => by
              rw [cs]
              rw [cn] at hi'
              have := zb8_f (hb8 i' (by omega) (by omega))
              rwa [show sv + (i' : Int) = ((sv.toNat + i' : Nat) : Int) by omega] at this) hRf hRl (by rw [hb]; exact zdc_eq hd) KK
      · cases hs
    · cases hs
  · cases hs
theorem zw_cl : (Cond.native ⟨"java/lang/Object", "clone", "()Ljava/lang/Object;"⟩ ∈ zTs ∧ Cond.instanceMethod ⟨"java/lang/Object", "clone", "()Ljava/lang/Object;"⟩ ∈ zTs) ∧ Cond.sameMethod "[B" "java/lang/Object" "clone" "()Ljava/lang/Object;" ∈ zTs ∧ Cond.selects "[B" ⟨"[B", "clone", "()Ljava/lang/Object;"⟩ ⟨"java/lang/Object", "clone", "()Ljava/lang/Object;"⟩ ∈ zTs := ⟨⟨zw_in (p := 3198) (by decide +kernel), zw_in (p := 3199) (by decide +kernel)⟩, zw_in (p := 3197) (by decide +kernel), zw_in (p := 3200) (by decide +kernel)⟩
noncomputable def zc_clone : zChk := fun y pc i => i.2.1 == 3 && zdc y pc (.invokevirtual i.2.2.1) 3 && zw (i.2.2.2.2.2.getD 0 0).toNat (.methodLink (zmn y).cls i.2.2.1 ⟨"[B", "clone", "()Ljava/lang/Object;"⟩)
theorem zp_clone : zSound (zs_clone, zc_clone) := by
  intro G y p l e R s m args below meth c H locs Q n0 m0 nF mF cx hRc hRs hRf hRl i pc ls st S lm pc' ls' st' S' hc hs hat hn0 hm0 hnF hmF kk
  obtain ⟨hx, hb, hml, hown, hts, hfix, hnm⟩ := cx
  obtain ⟨op, len, a, b, k, ex⟩ := i
  have hg := hfix.2.2.2.2.2.2.2.1
  unfold zs_clone at hs
  dsimp only at hs
  simp only [zc_clone, Bool.and_eq_true, beq_iff_eq] at hc
  obtain ⟨⟨rfl, hd⟩, hcw⟩ := hc
  obtain ⟨⟨w1, w2⟩, w3, w4⟩ := zw_cl
  split at hs
  · rename_i av st1
    split at hs
    · rename_i c1 n1 hsh
      split at hs
      · rename_i hif
        obtain ⟨rfl, h32, hsm, hall⟩ := hif
        cases hs
        have hw := hat.2.2.2.2.2
        obtain ⟨g1, g2, g3⟩ := zsh_own (G := G) h32 hsh
        obtain ⟨hsz, hP, hI⟩ := id hat.1
        obtain ⟨hn2, -, hrg⟩ := hI.2.2.2.2 _ _ _ g1
        have hget := zws_get (G := G) g1
        rw [zcell_arr (by decide), ← g2, zarr_i (by decide) (by decide)] at hget
        obtain ⟨-, k1, hk1, cm1, hkk1⟩ := (hfix.1.2 2 _ rfl).1 n1 (fun j => .int (Int32.ofInt (S.2.2 av j)))
        rw [zlen_push] at hnF
        rw [zslots_push] at hmF
        have e1 : (S.2.1 ++ [(102, n1)]).length - n0 = S.2.1.length - n0 + 1 := by rw [zlen_push]; omega
        have e2 : ∀ HH, zslots (S.1, S.2.1 ++ [(102, n1)], HH) - m0 = zslots S - m0 + n1 := by intro HH; rw [zslots_push]; omega
        have hza : zad G (32 + (S.2.1.length : Int)) = H.size := by
          unfold zad
          rw [if_neg (by omega), hsz]; omega
        rw [List.map_cons, zcv_ref (by omega), g3]
        refine z_cloneB (n := n1) (cA := gA G 2) (f := fun j : Nat => Int32.ofInt (S.2.2 av j)) hx (by rw [hml]; exact hat.2.2.1.1.symm) hown (hts _ (zw_in hcw)) (hts _ w3) (hts _ w1) (hts _ w2) (hts _ w4) hfix.2.2.2.2.2.2.2.2.2.2.2.2.2.2.2.2 (hP _ _ hget) hk1 hkk1 (va_nm_byte (hfix.1.2 2 _ rfl).2) (fun i hi => zb8_f (List.all_eq_true.mp hall i (List.mem_range.mpr hi))) hRf (by rw [zsum_cat G hg]; omega) (by omega) (by omega) (by rw [hb]; exact zdc_eq hd) (fun H1 z1 ea o1 => ?_)
        have K := kk H1 locs lm (hat.push hn2 (Or.inr ⟨⟨by decide, by decide⟩, by decide⟩) (fun j => by have := hrg j; rwa [← g2] at this) (zwf_cons (zwfR _) (zwf_tl hw)) z1 o1 (by rw [zcell_arr (by decide), zarr_i (by decide) (by decide)]; exact ea))
        rw [List.map_cons, zcv_ref (by omega), hza] at K
        dsimp only at K
        rw [e1, e2] at K
        exact K
      · cases hs
    · cases hs
  · cases hs
noncomputable def zc_cast : zChk := fun y pc i => i.2.1 == 3 && zdc y pc (.checkcast i.2.2.1) 3 && zw (i.2.2.2.2.2.getD 0 0).toNat (.classLink (zmn y).cls i.2.2.1 "[B")
theorem zp_cast : zSound (zs_cast, zc_cast) := by
  intro G y p l e R s m args below meth c H locs Q n0 m0 nF mF cx hRc hRs hRf hRl i pc ls st S lm pc' ls' st' S' hc hs hat hn0 hm0 hnF hmF kk
  obtain ⟨hx, hb, hml, hown, hts, hfix, hnm⟩ := cx
  obtain ⟨op, len, a, b, k, ex⟩ := i
  unfold zs_cast at hs
  dsimp only at hs
  simp only [zc_cast, Bool.and_eq_true, beq_iff_eq] at hc
  obtain ⟨⟨rfl, hd⟩, hcw⟩ := hc
  split at hs
  · rename_i av st1
    split at hs
    · rename_i c1 n1 hsh
      split at hs
      · rename_i hif
        obtain ⟨rfl, h32⟩ := hif
        cases hs
        obtain ⟨g1, g2, g3⟩ := zsh_own (G := G) h32 hsh
        obtain ⟨hsz, hP, hI⟩ := id hat.1
        have hget := zws_get (G := G) g1
        rw [zcell_arr (by decide), ← g2, ← g3] at hget
        have K := kk H locs lm hat
        rw [List.map_cons, show zcv G (zR av) = .ref (zad G av) from zcv_ref (by omega)] at K
        rw [List.map_cons, zcv_ref (by omega)]
        exact va_castA hx hb hown (hts _ (zw_in hcw)) hP _ hget (va_nm_byte (hfix.1.2 2 _ rfl).2) (zdc_eq hd) K
      · cases hs
    · cases hs
  · cases hs
def zc_no : zChk := fun _ _ _ => false
theorem zp_no : zSound (zs_no, zc_no) := by
  intro G y p l e R s m args below meth c H locs Q n0 m0 nF mF cx hRc hRs hRf hRl i pc ls st S lm pc' ls' st' S' hc hs
  cases hc
noncomputable def zchks : List zChk := [zc_no, zc_iconst, zc_lconst, zc_iload, zc_lload, zc_aload, zc_istore, zc_lstore, zc_astore, zc_iinc, zc_iar, zc_lar, zc_lsh, zc_un, zc_lcmp, zc_if, zc_icmp, zc_goto, zc_get, zc_put, zc_alen, zc_ald, zc_xast, zc_dup, zc_dup2, zc_newa, zc_newq, zc_new, zc_no, zc_no, zc_table, zc_stat, zc_ldcs, zc_pop, zc_obj, zc_sget, zc_look, zc_math 0, zc_math 1, zc_math 2, zc_null, zc_dupx, zc_acopy, zc_nonnull, zc_clone, zc_cast]
noncomputable def zchk : zChk := fun y pc i => (zchks.getD i.1 zc_no) y pc i
theorem zp_all : ∀ q ∈ zsems.zip zchks, zSound q :=
  List.forall_mem_cons.mpr ⟨zp_no, List.forall_mem_cons.mpr ⟨zp_iconst, List.forall_mem_cons.mpr ⟨zp_lconst, List.forall_mem_cons.mpr ⟨zp_iload, List.forall_mem_cons.mpr ⟨zp_lload, List.forall_mem_cons.mpr ⟨zp_aload, List.forall_mem_cons.mpr ⟨zp_istore, List.forall_mem_cons.mpr ⟨zp_lstore, List.forall_mem_cons.mpr ⟨zp_astore, List.forall_mem_cons.mpr ⟨zp_iinc, List.forall_mem_cons.mpr ⟨zp_iar, List.forall_mem_cons.mpr ⟨zp_lar, List.forall_mem_cons.mpr ⟨zp_lsh, List.forall_mem_cons.mpr ⟨zp_un, List.forall_mem_cons.mpr ⟨zp_lcmp, List.forall_mem_cons.mpr ⟨zp_if, List.forall_mem_cons.mpr ⟨zp_icmp, List.forall_mem_cons.mpr ⟨zp_goto, List.forall_mem_cons.mpr ⟨zp_get, List.forall_mem_cons.mpr ⟨zp_put, List.forall_mem_cons.mpr ⟨zp_alen, List.forall_mem_cons.mpr ⟨zp_ald, List.forall_mem_cons.mpr ⟨zp_xast, List.forall_mem_cons.mpr ⟨zp_dup, List.forall_mem_cons.mpr ⟨zp_dup2, List.forall_mem_cons.mpr ⟨zp_newa, List.forall_mem_cons.mpr ⟨zp_newq, List.forall_mem_cons.mpr ⟨zp_new, List.forall_mem_cons.mpr ⟨zp_no, List.forall_mem_cons.mpr ⟨zp_no, List.forall_mem_cons.mpr ⟨zp_table, List.forall_mem_cons.mpr ⟨zp_stat, List.forall_mem_cons.mpr ⟨zp_ldcs, List.forall_mem_cons.mpr ⟨zp_pop, List.forall_mem_cons.mpr ⟨zp_obj, List.forall_mem_cons.mpr ⟨zp_sget, List.forall_mem_cons.mpr ⟨zp_look, List.forall_mem_cons.mpr ⟨zp_math 0, List.forall_mem_cons.mpr ⟨zp_math 1, List.forall_mem_cons.mpr ⟨zp_math 2, List.forall_mem_cons.mpr ⟨zp_null, List.forall_mem_cons.mpr ⟨zp_dupx, List.forall_mem_cons.mpr ⟨zp_acopy, List.forall_mem_cons.mpr ⟨zp_nonnull, List.forall_mem_cons.mpr ⟨zp_clone, List.forall_mem_cons.mpr ⟨zp_cast, fun _ h => absurd h List.not_mem_nil⟩⟩⟩⟩⟩⟩⟩⟩⟩⟩⟩⟩⟩⟩⟩⟩⟩⟩⟩⟩⟩⟩⟩⟩⟩⟩⟩⟩⟩⟩⟩⟩⟩⟩⟩⟩⟩⟩⟩⟩⟩⟩⟩⟩⟩⟩
theorem zp_step : zSound (zstep, zchk) := by
  intro G y p l e R s m args below meth c H locs Q n0 m0 nF mF cx hRc hRs hRf hRl i pc ls st S lm pc' ls' st' S' hc hs
  have hq : zSound (zsems.getD i.1 zs_no, zchks.getD i.1 zc_no) := by
    by_cases h : i.1 < 46
    · apply zp_all
      apply List.mem_of_getElem? (i := i.1)
      rw [List.getElem?_zip_eq_some]
      constructor
      · show zsems[i.1]? = some (zsems.getD i.1 zs_no)
        rw [List.getD_eq_getElem?_getD, List.getElem?_eq_getElem (show i.1 < zsems.length from h)]; rfl
      · show zchks[i.1]? = some (zchks.getD i.1 zc_no)
        rw [List.getD_eq_getElem?_getD, List.getElem?_eq_getElem (show i.1 < zchks.length from h)]; rfl
    · rw [List.getD_eq_getElem?_getD, List.getD_eq_getElem?_getD, List.getElem?_eq_none (by show 46 ≤ i.1; omega), List.getElem?_eq_none (by show 46 ≤ i.1; omega)]
      exact zp_no
  exact hq G y n0 m0 nF mF cx hRc hRs hRf hRl i pc ls st S lm pc' ls' st' S' hc hs
