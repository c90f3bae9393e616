/-! new cells, statics, texts, Object's constructor -/
theorem zslots_push {S : zHp} {k n : Nat} {H : Int → Int → Int} : zslots (S.1, S.2.1 ++ [(k, n)], H) = zslots S + n := by
  unfold zslots
  show ((S.2.1 ++ [(k, n)]).map Prod.snd).sum = _
  rw [List.map_append, List.sum_append]; rfl
theorem zlen_push {S : zHp} {k n : Nat} : (S.2.1 ++ [(k, n)]).length = S.2.1.length + 1 := by simp
theorem zInv_push {G : zG} {S : zHp} {k n : Nat} {f : Int → Int} (h : zInv G S) (hn : n < 2147483648) (hk : k < 7 ∧ n = znf.getD k 0 ∨ 100 ≤ k ∧ k < 106) (hf : ∀ j : Nat, zrg k j (f j)) : zInv G (S.1, S.2.1 ++ [(k, n)], znew S.2.2 (32 + S.2.1.length) f) := by
  obtain ⟨h1, h2, h3, h4, h5⟩ := h
  have ne : ∀ (a j : Int), a ≠ 32 + S.2.1.length → znew S.2.2 (32 + S.2.1.length) f a j = S.2.2 a j := fun a j q => by unfold znew; rw [if_neg q]
  refine ⟨h1, fun q => ?_, fun q hq => ?_, fun i hi q => ?_, fun i k' n' hi => ?_⟩
  · show znew _ _ f 0 q = _
    rw [ne _ _ (by omega)]; exact h2 q
  · show znew _ _ f 1 q = _
    rw [ne _ _ (by omega)]; exact h3 q hq
  · show znew _ _ f (10 + i) q = _
    rw [ne _ _ (by omega)]; exact h4 i hi q
  · by_cases hl : i < S.2.1.length
    · rw [List.getElem?_append_left hl] at hi
      obtain ⟨g1, g2, g3⟩ := h5 i k' n' hi
      refine ⟨g1, g2, fun q => ?_⟩
      show zrg k' q (znew _ _ f (32 + i) q)
      rw [ne _ _ (by omega)]
      exact g3 q
    · rw [List.getElem?_append_right (by omega)] at hi
      have hz : i - S.2.1.length < 1 := (List.getElem?_eq_some_iff.mp hi).1
      rw [show i - S.2.1.length = 0 by omega] at hi
      cases hi
      refine ⟨hn, hk, fun q => ?_⟩
      show zrg k q (znew _ _ f (32 + i) q)
      have e : (32 + (i : Int)) = 32 + (S.2.1.length : Int) := by omega
      rw [e]
      unfold znew
      rw [if_pos rfl]
      exact hf q
theorem zAt.push {G : zG} {y : Nat} {s : State} {lm : Array Slot} {H H1 : Heap} {locs : List Loc} {ls st st' : List zV} {S : zHp} {k n : Nat} {f : Int → Int} (h : zAt G y s lm H locs ls st S) (hn : n < 2147483648) (hk : k < 7 ∧ n = znf.getD k 0 ∨ 100 ≤ k ∧ k < 106) (hf : ∀ j : Nat, zrg k j (f j)) (hw : ∀ v ∈ st', zwf v)
    (z1 : H1.size = H.size + 1) (o1 : ∀ q, q < H.size → H1[q]? = H[q]?) (e1 : va_at (gD G) vwCl (H.size, zcell G k n f) H1) : zAt G y s lm H1 locs ls st' (S.1, S.2.1 ++ [(k, n)], znew S.2.2 (32 + S.2.1.length) f) := by
  obtain ⟨⟨hsz, hP, hI⟩, hS, h3, h4, h5, -⟩ := h
  refine ⟨⟨?_, ?_, zInv_push hI hn hk hf⟩, ⟨by have := hS.1; omega, fun x g1 g2 => (o1 x (Nat.lt_of_lt_of_le g1 hS.1)).trans (hS.2.1 x g1 g2), hS.2.2⟩, h3, h4, h5, hw⟩
  · show H1.size = gB G + (S.2.1 ++ [(k, n)]).length
    rw [zlen_push, z1, hsz]; omega
  · rw [zws_push]
    refine (hP.kept (fun q x hx => o1 x.1 ((hP q x hx).lt))).app (fun q x hx => ?_)
    have hz : q < 1 := (List.getElem?_eq_some_iff.mp hx).1
    rw [show q = 0 by omega] at hx
    cases hx
    rw [hsz] at e1
    exact e1
def zAty (a : Nat) : ArrayType := match a with
  | 0 => .int
  | 1 => .long
  | 2 => .byte
  | _ => .boolean
def zc_newa : zChk := fun y pc i => i.2.1 == 2 && zdc y pc (.newarray (zAty i.2.2.1)) 2
theorem zw_int : Cond.arrayClass .int ∈ zTs := zw_in (p := 1089) (by decide +kernel)
theorem zw_long : Cond.arrayClass .long ∈ zTs := zw_in (p := 1090) (by decide +kernel)
theorem zw_byte : Cond.arrayClass .byte ∈ zTs := zw_in (p := 2185) (by decide +kernel)
theorem zw_bool : Cond.arrayClass .boolean ∈ zTs := zw_in (p := 5213) (by decide +kernel)
theorem zrg0 (k j : Nat) : zrg k j 0 := ⟨fun _ => r32_0, fun _ => ⟨by decide, by decide⟩⟩
theorem zp_newa : zSound (zs_newa, zc_newa) := by
  intro G y p l e R s m args below meth c H locs Q n0 m0 nF mF cx hRc hRs hRf hRl i pc ls st S lm pc' ls' st' S' hc hs hat hn0 hm0 hnF hmF kk
  obtain ⟨hx, hb, hml, hown, hts, hfix, hnm⟩ := cx
  obtain ⟨op, len, a, b, k, ex⟩ := i
  unfold zs_newa at hs
  dsimp only at hs
  simp only [zc_newa, Bool.and_eq_true, beq_iff_eq] at hc
  obtain ⟨rfl, hd⟩ := hc
  split at hs
  · rename_i nv st1
    split at hs
    · rename_i hif
      obtain ⟨hn0', hnb, ha4⟩ := hif
      cases hs
      have hw := hat.2.2.2.2.2
      have hnr := (zwf_hd hw).1 rfl
      have hcl := z_clamp hnr hn0'
      have hneg : ¬ Int32.ofInt nv < 0 := fun q => (z_in (n := nv.toNat + 1) hnr hn0' (by omega)) (Or.inl q)
      rw [zlen_push] at hnF
      rw [zslots_push] at hmF
      have e1 : (S.2.1 ++ [(100 + a, nv.toNat)]).length - n0 = S.2.1.length - n0 + 1 := by rw [zlen_push]; omega
      have e2 : ∀ HH, zslots (S.1, S.2.1 ++ [(100 + a, nv.toNat)], HH) - m0 = zslots S - m0 + nv.toNat := by intro HH; rw [zslots_push]; omega
      have hsz := hat.1.1
      have hza : zad G (32 + (S.2.1.length : Int)) = H.size := by
        unfold zad
        rw [if_neg (by omega), hsz]; omega
      have KK : ∀ (H' : Heap), H'.size = H.size + 1 → (∀ q, q < H.size → H'[q]? = H[q]?) → va_at (gD G) vwCl (H.size, zcell G (100 + a) nv.toNat (fun _ => 0)) H' → W p l e R s m args below meth c H' locs (S.2.1.length - n0 + 1) (zslots S - m0 + nv.toNat) Q (F0 m (pc + 2) lm (.ref H.size :: st1.map (zcv G))) := by
        intro H' z1 o1 ea
        have K := kk H' locs lm (hat.push (by omega) (Or.inr ⟨by omega, by omega⟩) (fun j => zrg0 _ _) (zwf_cons (zwfR _) (zwf_tl hw)) z1 o1 ea)
        rw [List.map_cons, zcv_ref (by omega), hza] at K
        dsimp only at K
        rw [e1, e2] at K
        exact K
      rw [List.map_cons, show zcv G (0, nv) = .int (Int32.ofInt nv) from rfl]
      match a, ha4 with
      | 0, _ =>
        refine va_newaK hx hb (atype := .int) (hts _ zw_int) (g := F0 m pc lm (.int (Int32.ofInt nv) :: st1.map (zcv G))) rfl (zdc_eq hd) rfl hneg hcl (by show _ * 4 ≤ _; omega) (by omega) (by omega) rfl (fun H' cA ec z1 o1 hAr hNm => KK H' z1 o1 ?_)
        have hc2 : cA = gA G 0 := Option.some.inj (hNm.symm.trans (hfix.1.2 0 _ rfl).2)
        subst hc2
        rw [zcell_arr (by omega)]
        exact ec
      | 1, _ =>
        refine va_newaK hx hb (atype := .long) (hts _ zw_long) (g := F0 m pc lm (.int (Int32.ofInt nv) :: st1.map (zcv G))) rfl (zdc_eq hd) rfl hneg hcl (by show _ * 8 ≤ _; omega) (by omega) (by omega) rfl (fun H' cA ec z1 o1 hAr hNm => KK H' z1 o1 ?_)
        have hc2 : cA = gA G 1 := Option.some.inj (hNm.symm.trans (hfix.1.2 1 _ rfl).2)
        subst hc2
        rw [zcell_arr (by omega)]
        exact ec
      | 2, _ =>
        refine va_newaK hx hb (atype := .byte) (hts _ zw_byte) (g := F0 m pc lm (.int (Int32.ofInt nv) :: st1.map (zcv G))) rfl (zdc_eq hd) rfl hneg hcl (by show _ * 1 ≤ _; omega) (by omega) (by omega) rfl (fun H' cA ec z1 o1 hAr hNm => KK H' z1 o1 ?_)
        have hc2 : cA = gA G 2 := Option.some.inj (hNm.symm.trans (hfix.1.2 2 _ rfl).2)
        subst hc2
        rw [zcell_arr (by omega)]
        exact ec
      | 3, _ =>
        refine va_newaK hx hb (atype := .boolean) (hts _ zw_bool) (g := F0 m pc lm (.int (Int32.ofInt nv) :: st1.map (zcv G))) rfl (zdc_eq hd) rfl hneg hcl (by show _ * 1 ≤ _; omega) (by omega) (by omega) rfl (fun H' cA ec z1 o1 hAr hNm => KK H' z1 o1 ?_)
        have hc2 : cA = gA G 3 := Option.some.inj (hNm.symm.trans (hfix.1.2 3 _ rfl).2)
        subst hc2
        rw [zcell_arr (by omega)]
        exact ec
      | n + 4, h => omega
    · cases hs
  · cases hs
noncomputable def zc_newq : zChk := fun y pc i => i.2.1 == 3 && zdc y pc (.anewarray i.2.2.2.1) 3 && zw (i.2.2.2.2.2.getD 0 0).toNat (.classLink (zmn y).cls i.2.2.2.1 (if i.2.2.1 = 4 then RX0 else RX4))
theorem zp_newq : zSound (zs_newq, zc_newq) := by
  intro G y p l e R s m args below meth c H locs Q n0 m0 nF mF cx hRc hRs hRf hRl i pc ls st S lm pc' ls' st' S' hc hs hat hn0 hm0 hnF hmF kk
  obtain ⟨hx, hb, hml, hown, hts, hfix, hnm⟩ := cx
  obtain ⟨op, len, a, b, k, ex⟩ := i
  unfold zs_newq at hs
  dsimp only at hs
  simp only [zc_newq, Bool.and_eq_true, beq_iff_eq] at hc
  obtain ⟨⟨rfl, hd⟩, hcw⟩ := hc
  split at hs
  · rename_i nv st1
    split at hs
    · rename_i hif
      obtain ⟨hn0', hnb, ha4⟩ := hif
      cases hs
      have hw := hat.2.2.2.2.2
      have hnr := (zwf_hd hw).1 rfl
      have hcl := z_clamp hnr hn0'
      have hneg : ¬ Int32.ofInt nv < 0 := fun q => (z_in (n := nv.toNat + 1) hnr hn0' (by omega)) (Or.inl q)
      rw [zlen_push] at hnF
      rw [zslots_push] at hmF
      have e1 : (S.2.1 ++ [(100 + a, nv.toNat)]).length - n0 = S.2.1.length - n0 + 1 := by rw [zlen_push]; omega
      have e2 : ∀ HH, zslots (S.1, S.2.1 ++ [(100 + a, nv.toNat)], HH) - m0 = zslots S - m0 + nv.toNat := by intro HH; rw [zslots_push]; omega
      have hsz := hat.1.1
      have hza : zad G (32 + (S.2.1.length : Int)) = H.size := by
        unfold zad
        rw [if_neg (by omega), hsz]; omega
      have KK : ∀ (H' : Heap), H'.size = H.size + 1 → (∀ q, q < H.size → H'[q]? = H[q]?) → va_at (gD G) vwCl (H.size, zcell G (100 + a) nv.toNat (fun _ => -1)) H' → W p l e R s m args below meth c H' locs (S.2.1.length - n0 + 1) (zslots S - m0 + nv.toNat) Q (F0 m (pc + 3) lm (.ref H.size :: st1.map (zcv G))) := by
        intro H' z1 o1 ea
        have K := kk H' locs lm (hat.push (by omega) (Or.inr ⟨by omega, by omega⟩) (fun j => zrg_arr_of (by omega) (fun q => by omega) (fun _ q => by omega)) (zwf_cons (zwfR _) (zwf_tl hw)) z1 o1 ea)
        rw [List.map_cons, zcv_ref (by omega), hza] at K
        dsimp only at K
        rw [e1, e2] at K
        exact K
      rw [List.map_cons, show zcv G (0, nv) = .int (Int32.ofInt nv) from rfl]
      have key : ∀ (C : String), (zTys G)[a]? = some (gA G a, .object C) → (Cond.classLink (zmn y).cls b C).before args s = true → va_AO C s → W p l e R s m args below meth c H locs (S.2.1.length - n0) (zslots S - m0) Q (F0 m pc lm (.int (Int32.ofInt nv) :: st1.map (zcv G))) := by
        intro C htq hcw2 hao
        refine W.anew hx hb (C := C) hown hcw2 (va_AO.use hao) (g := F0 m pc lm (.int (Int32.ofInt nv) :: st1.map (zcv G))) rfl (zdc_eq hd) rfl hneg (by rw [hcl]; omega) (by omega) (by rw [hcl]; omega) (fun cA kA comp f1 f2 f3 f4 => ?_)
        rw [hcl]
        have hc2 : cA = gA G a := by
          obtain ⟨kA2, comp2, w1, w2, w3, w4⟩ := (hfix.1.2 _ _ htq).2
          exact Option.some.inj (f1.symm.trans w4)
        subst hc2
        refine KK _ (by simp) (fun q hq => by rw [Array.getElem?_push, if_neg (Nat.ne_of_lt hq)]) ?_
        rw [zcell_arr (by omega)]
        show (H.push _)[H.size]? = some (vp_cell (gA G (100 + a - 100)) (nv.toNat, zarr G (100 + a) _))
        rw [zcell_q (by omega), Array.getElem?_push_size, arrV_new, show 100 + a - 100 = a by omega]
        congr 2
        funext q
        rw [if_neg (by omega), if_neg (by omega)]; rfl
      rcases ha4 with rfl | rfl
      · exact key RX0 rfl (hts _ (zw_in hcw)) hfix.2.2.2.2.2.2.2.2.2.2.2.1
      · exact key RX4 rfl (hts _ (zw_in hcw)) hfix.2.2.2.2.2.2.2.2.2.2.2.2
    · cases hs
  · cases hs
def zinst : List (Nat × Nat) := [(5, 1117), (2, 1186), (4, 1092), (11, 1047), (5, 1157), (15, 1039), (44, 4282)]
def zinit : List Nat := [1028, 1030, 1027, 1026, 1029, 1025, 1031]
def zCn (ci : Nat) : String := (vwCl.getD ci (RX0, TX0, 0)).1
theorem zinst_ok : (List.range 7).all (fun ci => zw (zinst.getD ci (0, 0)).2 (.instantiable (zCn ci) (znf.getD ci 0)) && zw (zinit.getD ci 0) (.initialized (zCn ci))) = true := by decide +kernel
theorem zinst_in {ci : Nat} (h : ci < 7) : Cond.instantiable (zCn ci) (znf.getD ci 0) ∈ zTs ∧ Cond.initialized (zCn ci) ∈ zTs := by
  have := List.all_eq_true.mp zinst_ok ci (List.mem_range.mpr h)
  simp only [Bool.and_eq_true] at this
  exact ⟨zw_in this.1, zw_in this.2⟩
noncomputable def zc_new : zChk := fun y pc i => i.2.1 == 3 && zdc y pc (.new i.2.2.2.1) 3 && zw (i.2.2.2.2.2.getD 0 0).toNat (.classLink (zmn y).cls i.2.2.2.1 (zCn i.2.2.1))
theorem zdef (G : zG) {ty : FieldType} (h : zfok ty = true) : defaultValue ty = zcv G (ztag (zkind ty) (if zkind ty = 2 then -1 else 0)) := by
  rcases zfok_of h with rfl | rfl | rfl | ⟨n, rfl⟩ | ⟨t, rfl⟩ <;> rfl
theorem zfok_all : (List.range 7).all (fun ci => (List.range (znf.getD ci 0)).all fun k => zfok ((ztys.getD ci tyX0) k)) = true := by decide +kernel
theorem zp_new : zSound (zs_new, zc_new) := by
  intro G y p l e R s m args below meth c H locs Q n0 m0 nF mF cx hRc hRs hRf hRl i pc ls st S lm pc' ls' st' S' hc hs hat hn0 hm0 hnF hmF kk
  obtain ⟨hx, hb, hml, hown, hts, hfix, hnm⟩ := cx
  obtain ⟨op, len, a, b, k, ex⟩ := i
  unfold zs_new at hs
  dsimp only at hs
  simp only [zc_new, Bool.and_eq_true, beq_iff_eq] at hc
  obtain ⟨⟨rfl, hd⟩, hcw⟩ := hc
  split at hs
  · rename_i ha7
    cases hs
    have hw := hat.2.2.2.2.2
    obtain ⟨C, T, N, ty, hCl⟩ := zCl_all ha7
    have hCn : zCn a = C := by unfold zCn; rw [List.getD_eq_getElem?_getD, hCl.1]; rfl
    rw [hCn] at hcw
    obtain ⟨hin1, hin2⟩ := zinst_in ha7
    rw [hCn] at hin1 hin2
    rw [zlen_push] at hnF
    rw [zslots_push] at hmF
    rw [hCl.2.2.2.2.2] at hin1 hmF
    have e1 : (S.2.1 ++ [(a, N)]).length - n0 = S.2.1.length - n0 + 1 := by rw [zlen_push]; omega
    have e2 : ∀ HH, zslots (S.1, S.2.1 ++ [(a, N)], HH) - m0 = zslots S - m0 + N := by intro HH; rw [zslots_push]; omega
    have hsz := hat.1.1
    have hza : zad G (32 + (S.2.1.length : Int)) = H.size := by
      unfold zad
      rw [if_neg (by omega), hsz]; omega
    have hN100 : N < 100 := by
      have := hCl.2.2.2.2.2
      have h7 : ∀ ci, ci < 7 → znf.getD ci 0 < 100 := by decide
      rw [← this]; exact h7 a ha7
    obtain ⟨hS, hfc, kC0, hkC0, hkind⟩ := hfix.1.1 a _ hCl.1
    refine W.newcK hx hb (C := C) (n := N) hown (hts _ (zw_in hcw)) (hts _ hin1) (hts _ hin2) (g := F0 m pc lm (st.map (zcv G))) rfl (zdc_eq hd) (by omega) (by omega) hfc rfl (fun H' kC hkC ec z1 o1 => ?_)
    have hborn := u_born ty hts hCl.2.1 (hfix.1.1 a _ hCl.1) hkC ec hCl.2.2.1
    have ea : va_at (gD G) vwCl (H.size, zcell G a N (fun j => if zft a j.toNat = 2 then -1 else 0)) H' := by
      rw [zcell_obj ha7]
      refine ⟨_, hCl.1, hborn.to (fun j hj => ?_)⟩
      show _ = (List.getD _ j Value.null)
      rw [List.getD_eq_getElem?_getD]
      refine Eq.trans ?_ (congrArg (fun o => Option.getD o Value.null) (zfield_at (G := G) (k := a) (f := fun j : Int => if zft a j.toNat = 2 then -1 else 0) hj)).symm
      show _ = zcv G (ztag (zft a j) (if zft a (j : Int).toNat = 2 then -1 else 0))
      have hfo : zfok (ty j) = true := by
        have h9 := List.all_eq_true.mp zfok_all a (List.mem_range.mpr ha7)
        rw [hCl.2.2.2.2.2, hCl.2.2.2.2.1] at h9
        exact List.all_eq_true.mp h9 j (List.mem_range.mpr hj)
      have hft : zft a j = zkind (ty j) := by unfold zft; rw [hCl.2.2.2.2.1]
      rw [zdef G hfo, show (j : Int).toNat = j from rfl, hft]
    have K := kk H' locs lm (by
      rw [hCl.2.2.2.2.2]
      refine hat.push (k := a) (n := N) (by omega) (Or.inl ⟨ha7, hCl.2.2.2.2.2.symm⟩) (fun j => ?_) (zwf_cons (zwfR _) hw) z1 o1 ea
      unfold zrg zvt
      rw [if_pos (by omega)]
      show ((ztag (zft a j) 0).1 = 0 → r32 (if zft a (j : Int).toNat = 2 then -1 else 0)) ∧ ((ztag (zft a j) 0).1 = 1 → r64 (if zft a (j : Int).toNat = 2 then -1 else 0))
      constructor
      · intro _; split
        · exact ⟨by decide, by decide⟩
        · exact r32_0
      · intro _; split <;> exact ⟨by decide, by decide⟩)
    rw [List.map_cons, zcv_ref (by omega), hza] at K
    dsimp only at K
    rw [hCl.2.2.2.2.2, e1, e2] at K
    exact K
  · cases hs
noncomputable def zc_stat : zChk := fun y pc i => i.2.1 == 3 && zdc y pc (.getstatic i.2.2.2.1) 3 && (match i.2.2.1 with
  | 0 => zw (i.2.2.2.2.2.getD 0 0).toNat (.fieldLink (zmn y).cls i.2.2.2.1 "SumWalker$Primes" "SMALL" "[I")
  | 1 => zw (i.2.2.2.2.2.getD 0 0).toNat (.fieldLink (zmn y).cls i.2.2.2.1 "java/lang/String" "COMPACT_STRINGS" "Z")
  | _ => zw (i.2.2.2.2.2.getD 0 0).toNat (.fieldLink (zmn y).cls i.2.2.2.1 zFmt.1 zFmt.2.1 zFmt.2.2))
theorem zp_stat : zSound (zs_stat, zc_stat) := by
  intro G y p l e R s m args below meth c H locs Q n0 m0 nF mF cx hRc hRs hRf hRl i pc ls st S lm pc' ls' st' S' hc hs hat hn0 hm0 hnF hmF kk
  obtain ⟨hx, hb, hml, hown, hts, hfix, hnm⟩ := cx
  obtain ⟨op, len, a, b, k, ex⟩ := i
  unfold zs_stat at hs
  dsimp only at hs
  simp only [zc_stat, Bool.and_eq_true, beq_iff_eq] at hc
  obtain ⟨⟨rfl, hd⟩, hcw⟩ := hc
  split at hs
  · cases hs
    exact va_gets hx hb hfix.2.2.2.1 hat.2.1 hown (hts _ (zw_in hcw)) (fun _ h => h) (zdc_eq hd) (kk H locs lm (hat.st (zwf_cons (zwfR _) hat.2.2.2.2.2)))
  · cases hs
    exact va_gets hx hb hfix.2.2.2.2.2.1 hat.2.1 hown (hts _ (zw_in hcw)) (fun _ h => h) (zdc_eq hd) (kk H locs lm (hat.st (zwf_cons (zwfI ⟨by decide, by decide⟩) hat.2.2.2.2.2)))
  · rename_i h0 h1
    cases hs
    have hcw2 : zw (ex.getD 0 0).toNat (.fieldLink (zmn y).cls b zFmt.1 zFmt.2.1 zFmt.2.2) = true := by
      split at hcw
      · exact absurd rfl h0
      · exact absurd rfl h1
      · exact hcw
    exact va_gets hx hb hfix.2.2.2.2.2.2.1 hat.2.1 hown (hts _ (zw_in hcw2)) (fun _ h => h) (zdc_eq hd) (kk H locs lm (hat.st (zwf_cons (zwfO _) hat.2.2.2.2.2)))
def zc_ldcs : zChk := fun y pc i => i.2.1 == 2 && zdc y pc (.ldc i.2.2.2.1) 2 && decide (i.2.2.2.1 = zstrix.getD i.2.2.1 0) && decide ((zmn y).cls = "SumWalker$Reader")
theorem zp_ldcs : zSound (zs_ldcs, zc_ldcs) := by
  intro G y p l e R s m args below meth c H locs Q n0 m0 nF mF cx hRc hRs hRf hRl i pc ls st S lm pc' ls' st' S' hc hs hat hn0 hm0 hnF hmF kk
  obtain ⟨hx, hb, hml, hown, hts, hfix, hnm⟩ := cx
  obtain ⟨op, len, a, b, k, ex⟩ := i
  unfold zs_ldcs at hs
  dsimp only at hs
  simp only [zc_ldcs, Bool.and_eq_true, beq_iff_eq, decide_eq_true_eq] at hc
  obtain ⟨⟨⟨rfl, hd⟩, hix⟩, hcls⟩ := hc
  split at hs
  · rename_i h8
    cases hs
    have K := kk H locs lm (hat.st (zwf_cons (zwfR _) hat.2.2.2.2.2))
    have hz : zad G (2 + (a : Int)) = gK G a := by
      rw [zad_for (by omega), if_neg (by omega), if_neg (by omega), if_pos (by omega), show ((2 : Int) + a - 2).toNat = a by omega]
    rw [List.map_cons, zcv_ref (by omega), hz] at K
    rw [hcls] at hown
    have hR := hfix.2.2.2.2.2.2.2.2.2.1 a h8
    rw [← hix] at hR
    exact va_ldcS hx hb hown hR (zdc_eq hd) K
  · cases hs
noncomputable def zc_obj : zChk := fun y pc i => i.2.1 == 3 && zdc y pc (.invokespecial i.2.2.1) 3 && zw (i.2.2.2.2.2.getD 0 0).toNat (.methodLink (zmn y).cls i.2.2.1 Lib.objectInit)
theorem zw_oi : Cond.instanceMethod Lib.objectInit ∈ zTs ∧ Cond.code Lib.objectInit ⟨#[0xb1]⟩ 1 none ∈ zTs := ⟨zw_in (p := 1044) (by decide +kernel), zw_in (p := 1045) (by decide +kernel)⟩
theorem zp_obj : zSound (zs_obj, zc_obj) := by
  intro G y p l e R s m args below meth c H locs Q n0 m0 nF mF cx hRc hRs hRf hRl i pc ls st S lm pc' ls' st' S' hc hs hat hn0 hm0 hnF hmF kk
  obtain ⟨hx, hb, hml, hown, hts, hfix, hnm⟩ := cx
  obtain ⟨op, len, a, b, k, ex⟩ := i
  have hg := hfix.2.2.2.2.2.2.2.1
  unfold zs_obj at hs
  dsimp only at hs
  simp only [zc_obj, Bool.and_eq_true, beq_iff_eq] at hc
  obtain ⟨⟨rfl, hd⟩, hcw⟩ := hc
  split at hs
  · rename_i av st1
    split at hs
    · rename_i hif
      cases hs
      rw [List.map_cons, zcv_ref (by omega)]
      have hsum : ((st'.map (zcv G)).map fun v => v.category).sum = (st'.map zcat).sum := by
        rw [List.map_map]
        congr 1
        apply List.map_congr_left
        intro v _
        exact zcv_cat G v hg
      refine W.objInit hx hb hown (hts _ (zw_in hcw)) (hts _ zw_oi.1) (hts _ zw_oi.2) (g := F0 m pc lm (.ref (zad G av) :: st'.map (zcv G))) rfl ?_ rfl (zdc_eq hd) hRf ?_ (kk H locs lm (hat.st (zwf_tl hat.2.2.2.2.2)))
      · rw [hml]; exact hat.2.2.1.1
      · have := hif.2
        rw [hsum]
        show 2 * 0 + _ + 12 ≤ R.locals
        omega
    · cases hs
  · cases hs
noncomputable def zc_sget : zChk := fun y pc i => i.2.1 == 3 && zdc y pc (.getfield i.2.2.2.1) 3 && zw (i.2.2.2.2.2.getD 0 0).toNat (.fieldLink (zmn y).cls i.2.2.2.1 "java/lang/String" (if i.2.2.1 = 0 then "value" else "coder") (if i.2.2.1 = 0 then "[B" else "B"))
theorem zp_sget : zSound (zs_sget, zc_sget) := by
  intro G y p l e R s m args below meth c H locs Q n0 m0 nF mF cx hRc hRs hRf hRl i pc ls st S lm pc' ls' st' S' hc hs hat hn0 hm0 hnF hmF kk
  obtain ⟨hx, hb, hml, hown, hts, hfix, hnm⟩ := cx
  obtain ⟨op, len, a, b, k, ex⟩ := i
  unfold zs_sget at hs
  dsimp only at hs
  simp only [zc_sget, Bool.and_eq_true, beq_iff_eq] at hc
  obtain ⟨⟨rfl, hd⟩, hcw⟩ := hc
  split at hs
  · rename_i av st1
    split at hs
    · rename_i hif
      cases hs
      have hw := zwf_tl hat.2.2.2.2.2
      have hz : zad G av = gK G (av - 2).toNat := by
        rw [zad_for (by omega), if_neg (by omega), if_neg (by omega), if_pos (by omega)]
      rw [List.map_cons, zcv_ref (by omega), hz]
      have hSt := (hfix.2.2.2.2.2.2.2.2.1).1 (av - 2).toNat (by omega)
      by_cases h0 : a = 0
      · subst h0
        have K := kk H locs lm (hat.st (zwf_cons (by rw [if_pos rfl]; exact zwfR _) hw))
        have hz2 : zad G (av + 8) = gV G (av - 2).toNat := by
          rw [zad_for (by omega), if_neg (by omega), if_neg (by omega), if_neg (by omega), show (av + 8 - 10).toNat = (av - 2).toNat by omega]
        rw [if_pos rfl, List.map_cons, zcv_ref (by omega), hz2] at K
        exact vk_getf hx hb hSt.2.2.1 hat.2.1 hown (hts _ (zw_in hcw)) (fun _ h => h) (zdc_eq hd) K
      · have K := kk H locs lm (hat.st (zwf_cons (by rw [if_neg h0]; exact zwfI r32_0) hw))
        rw [if_neg h0] at K
        rw [if_neg h0, if_neg h0] at hcw
        exact vk_getf hx hb hSt.2.1 hat.2.1 hown (hts _ (zw_in hcw)) (fun _ h => h) (zdc_eq hd) K
    · cases hs
  · cases hs
theorem zsum_cat (G : zG) (hg : gf G = .null ∨ ∃ t, gf G = .ref t) (st : List zV) : ((st.map (zcv G)).map fun v => v.category).sum = (st.map zcat).sum := by
  rw [List.map_map]
  congr 1
  apply List.map_congr_left
  intro v _
  exact zcv_cat G v hg
theorem zw_math : (Cond.initialized "java/lang/Math" ∈ zTs) ∧ (Cond.static Lib.Math.max.name ∈ zTs ∧ Cond.code Lib.Math.max.name Lib.Math.max.code 2 (some .int) ∈ zTs) ∧ (Cond.static Lib.Math.min.name ∈ zTs ∧ Cond.code Lib.Math.min.name Lib.Math.min.code 2 (some .int) ∈ zTs) ∧ (Cond.static Lib.MathLoose.max_long.x ∈ zTs ∧ Cond.code Lib.MathLoose.max_long.x Lib.MathLoose.max_long.code 4 (some .long) ∈ zTs) :=
  ⟨zw_in (p := 1032) (by decide +kernel), ⟨zw_in (p := 3085) (by decide +kernel), zw_in (p := 3086) (by decide +kernel)⟩, ⟨zw_in (p := 2055) (by decide +kernel), zw_in (p := 2056) (by decide +kernel)⟩, ⟨zw_in (p := 3075) (by decide +kernel), zw_in (p := 3076) (by decide +kernel)⟩⟩
noncomputable def zc_math : Nat → zChk := fun q y pc i => i.2.1 == 3 && zdc y pc (.invokestatic i.2.2.1) 3 && zw (i.2.2.2.2.2.getD 0 0).toNat (.methodLink (zmn y).cls i.2.2.1 (match q with
  | 0 => Lib.Math.max.name
  | 1 => Lib.Math.min.name
  | _ => Lib.MathLoose.max_long.x))
theorem zp_math (q : Nat) : zSound (zs_math q, zc_math q) := by
  intro G y p l e R s m args below meth c H locs Q n0 m0 nF mF cx hRc hRs hRf hRl i pc ls st S lm pc' ls' st' S' hc hs hat hn0 hm0 hnF hmF kk
  obtain ⟨hx, hb, hml, hown, hts, hfix, hnm⟩ := cx
  obtain ⟨op, len, a, b, k, ex⟩ := i
  have hg := hfix.2.2.2.2.2.2.2.1
  unfold zs_math at hs
  dsimp only at hs
  simp only [zc_math, Bool.and_eq_true, beq_iff_eq] at hc
  obtain ⟨⟨rfl, hd⟩, hcw⟩ := hc
  have hm2 : c.maxLocals = lm.size := by rw [hml]; exact hat.2.2.1.1.symm
  have hw := hat.2.2.2.2.2
  obtain ⟨w0, ⟨w1, w2⟩, ⟨w3, w4⟩, ⟨w5, w6⟩⟩ := zw_math
  split at hs
  · rename_i yv xv st1
    split at hs
    · rename_i hsm
      cases hs
      have hry := (zwf_hd hw).1 rfl
      have hrx := (zwf_hd (zwf_tl hw)).1 rfl
      have K := kk H locs lm (hat.st (zwf_cons (zwfI (by split <;> assumption)) (zwf_tl (zwf_tl hw))))
      have ee : zcv G (zI (if xv < yv then yv else xv)) = .int (if Int32.ofInt xv < Int32.ofInt yv then Int32.ofInt yv else Int32.ofInt xv) := by
        by_cases h : xv < yv
        · rw [if_pos h, if_pos ((z32_lt hrx hry).mpr h)]; rfl
        · rw [if_neg h, if_neg (fun z => h ((z32_lt hrx hry).mp z))]; rfl
      rw [List.map_cons, ee] at K
      rw [List.map_cons, List.map_cons, show zcv G (0, yv) = .int (Int32.ofInt yv) from rfl, show zcv G (0, xv) = .int (Int32.ofInt xv) from rfl]
      exact va_mmax hx hb hm2 hown (hts _ (zw_in hcw)) (hts _ w1) (hts _ w0) (hts _ w2) hRf (by rw [zsum_cat G hg]; omega) (by omega) (by omega) (zdc_eq hd) K
    · cases hs
  · rename_i yv xv st1
    split at hs
    · rename_i hsm
      cases hs
      have hry := (zwf_hd hw).1 rfl
      have hrx := (zwf_hd (zwf_tl hw)).1 rfl
      have K := kk H locs lm (hat.st (zwf_cons (zwfI (by split <;> assumption)) (zwf_tl (zwf_tl hw))))
      have ee : zcv G (zI (if yv < xv then yv else xv)) = .int (if Int32.ofInt yv < Int32.ofInt xv then Int32.ofInt yv else Int32.ofInt xv) := by
        by_cases h : yv < xv
        · rw [if_pos h, if_pos ((z32_lt hry hrx).mpr h)]; rfl
        · rw [if_neg h, if_neg (fun z => h ((z32_lt hry hrx).mp z))]; rfl
      rw [List.map_cons, ee] at K
      rw [List.map_cons, List.map_cons, show zcv G (0, yv) = .int (Int32.ofInt yv) from rfl, show zcv G (0, xv) = .int (Int32.ofInt xv) from rfl]
      exact va_mmin hx hb hm2 hown (hts _ (zw_in hcw)) (hts _ w3) (hts _ w0) (hts _ w4) hRf (by rw [zsum_cat G hg]; omega) (by omega) (by omega) (zdc_eq hd) K
    · cases hs
  · rename_i yv xv st1
    split at hs
    · rename_i hsm
      cases hs
      have hry := (zwf_hd hw).2 rfl
      have hrx := (zwf_hd (zwf_tl hw)).2 rfl
      have K := kk H locs lm (hat.st (zwf_cons (zwfL (by split <;> assumption)) (zwf_tl (zwf_tl hw))))
      have ee : zcv G (zL (if yv < xv then xv else yv)) = .long (if Int64.ofInt yv < Int64.ofInt xv then Int64.ofInt xv else Int64.ofInt yv) := by
        by_cases h : yv < xv
        · rw [if_pos h, if_pos ((z64_lt hry hrx).mpr h)]; rfl
        · rw [if_neg h, if_neg (fun z => h ((z64_lt hry hrx).mp z))]; rfl
      rw [List.map_cons, ee] at K
      rw [List.map_cons, List.map_cons, show zcv G (1, yv) = .long (Int64.ofInt yv) from rfl, show zcv G (1, xv) = .long (Int64.ofInt xv) from rfl]
      exact va_mmax_long hx hb hm2 hown (hts _ (zw_in hcw)) (hts _ w5) (hts _ w0) (hts _ w6) hRf (by rw [zsum_cat G hg]; omega) (by omega) (by omega) (zdc_eq hd) K
    · cases hs
  · cases hs
def zc_no : zChk := fun _ _ _ => false
theorem zp_no : zSound (zs_no, zc_no) := by
  intro G y p l e R s m args below meth c H locs Q n0 m0 nF mF cx hRc hRs hRf hRl i pc ls st S lm pc' ls' st' S' hc hs
  cases hc
noncomputable def zchks : List zChk := [zc_no, zc_iconst, zc_lconst, zc_iload, zc_lload, zc_aload, zc_istore, zc_lstore, zc_astore, zc_iinc, zc_iar, zc_lar, zc_lsh, zc_un, zc_lcmp, zc_if, zc_icmp, zc_goto, zc_get, zc_put, zc_alen, zc_ald, zc_xast, zc_dup, zc_dup2, zc_newa, zc_newq, zc_new, zc_no, zc_no, zc_table, zc_stat, zc_ldcs, zc_pop, zc_obj, zc_sget, zc_look, zc_math 0, zc_math 1, zc_math 2]
noncomputable def zchk : zChk := fun y pc i => (zchks.getD i.1 zc_no) y pc i
theorem zp_all : ∀ q ∈ zsems.zip zchks, zSound q :=
  List.forall_mem_cons.mpr ⟨zp_no, List.forall_mem_cons.mpr ⟨zp_iconst, List.forall_mem_cons.mpr ⟨zp_lconst, List.forall_mem_cons.mpr ⟨zp_iload, List.forall_mem_cons.mpr ⟨zp_lload, List.forall_mem_cons.mpr ⟨zp_aload, List.forall_mem_cons.mpr ⟨zp_istore, List.forall_mem_cons.mpr ⟨zp_lstore, List.forall_mem_cons.mpr ⟨zp_astore, List.forall_mem_cons.mpr ⟨zp_iinc, List.forall_mem_cons.mpr ⟨zp_iar, List.forall_mem_cons.mpr ⟨zp_lar, List.forall_mem_cons.mpr ⟨zp_lsh, List.forall_mem_cons.mpr ⟨zp_un, List.forall_mem_cons.mpr ⟨zp_lcmp, List.forall_mem_cons.mpr ⟨zp_if, List.forall_mem_cons.mpr ⟨zp_icmp, List.forall_mem_cons.mpr ⟨zp_goto, List.forall_mem_cons.mpr ⟨zp_get, List.forall_mem_cons.mpr ⟨zp_put, List.forall_mem_cons.mpr ⟨zp_alen, List.forall_mem_cons.mpr ⟨zp_ald, List.forall_mem_cons.mpr ⟨zp_xast, List.forall_mem_cons.mpr ⟨zp_dup, List.forall_mem_cons.mpr ⟨zp_dup2, List.forall_mem_cons.mpr ⟨zp_newa, List.forall_mem_cons.mpr ⟨zp_newq, List.forall_mem_cons.mpr ⟨zp_new, List.forall_mem_cons.mpr ⟨zp_no, List.forall_mem_cons.mpr ⟨zp_no, List.forall_mem_cons.mpr ⟨zp_table, List.forall_mem_cons.mpr ⟨zp_stat, List.forall_mem_cons.mpr ⟨zp_ldcs, List.forall_mem_cons.mpr ⟨zp_pop, List.forall_mem_cons.mpr ⟨zp_obj, List.forall_mem_cons.mpr ⟨zp_sget, List.forall_mem_cons.mpr ⟨zp_look, List.forall_mem_cons.mpr ⟨zp_math 0, List.forall_mem_cons.mpr ⟨zp_math 1, List.forall_mem_cons.mpr ⟨zp_math 2, fun _ h => absurd h List.not_mem_nil⟩⟩⟩⟩⟩⟩⟩⟩⟩⟩⟩⟩⟩⟩⟩⟩⟩⟩⟩⟩⟩⟩⟩⟩⟩⟩⟩⟩⟩⟩⟩⟩⟩⟩⟩⟩⟩⟩⟩⟩
theorem zp_step : zSound (zstep, zchk) := by
  intro G y p l e R s m args below meth c H locs Q n0 m0 nF mF cx hRc hRs hRf hRl i pc ls st S lm pc' ls' st' S' hc hs
  have hq : zSound (zsems.getD i.1 zs_no, zchks.getD i.1 zc_no) := by
    by_cases h : i.1 < 40
    · apply zp_all
      apply List.mem_of_getElem? (i := i.1)
      rw [List.getElem?_zip_eq_some]
      constructor
      · show zsems[i.1]? = some (zsems.getD i.1 zs_no)
        rw [List.getD_eq_getElem?_getD, List.getElem?_eq_getElem (show i.1 < zsems.length from h)]; rfl
      · show zchks[i.1]? = some (zchks.getD i.1 zc_no)
        rw [List.getD_eq_getElem?_getD, List.getElem?_eq_getElem (show i.1 < zchks.length from h)]; rfl
    · rw [List.getD_eq_getElem?_getD, List.getD_eq_getElem?_getD, List.getElem?_eq_none (by show 40 ≤ i.1; omega), List.getElem?_eq_none (by show 40 ≤ i.1; omega)]
      exact zp_no
  exact hq G y n0 m0 nF mF cx hRc hRs hRf hRl i pc ls st S lm pc' ls' st' S' hc hs
