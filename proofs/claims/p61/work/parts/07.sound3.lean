/-! reads and writes of cells -/
def zplaces : List (List Nat) := [[1144, 1146, 1148, 1150, 1152], [1192, 1194], [1108, 1110, 1112, 1114], [1070, 1072, 1074, 1076, 1078, 1080, 1082, 1084, 1086, 1088, 1090], [1173, 1175, 1177, 1179, 1181], [1212, 1214, 1216, 1218, 1220, 1222, 1224, 1226, 1228, 1230, 1232, 1234, 1236, 1238, 1240], [3265, 3267, 3269, 3271], [4152, 4154, 4156, 4158]]
theorem zin_of {ws : List Cond} {ps : List Nat} (hl : ws.length = ps.length) (h : (ws.zip ps).all (fun q => zw q.2 q.1) = true) : ∀ w ∈ ws, w ∈ zTs := by
  intro w hw
  obtain ⟨i, hi⟩ := List.getElem?_of_mem hw
  have hlt := (List.getElem?_eq_some_iff.mp hi).1
  have hz : (ws.zip ps)[i]? = some (w, ps[i]'(hl ▸ hlt)) := by
    rw [List.getElem?_zip_eq_some]
    exact ⟨hi, List.getElem?_eq_getElem _⟩
  exact zw_in (List.all_eq_true.mp h _ (List.mem_of_getElem? hz))
theorem zu0 : ∀ w ∈ u_ws RX0 TX0 5, w ∈ zTs := zin_of (ps := zplaces.getD 0 []) rfl (by decide +kernel)
theorem zu1 : ∀ w ∈ u_ws RX1 TX1 2, w ∈ zTs := zin_of (ps := zplaces.getD 1 []) rfl (by decide +kernel)
theorem zu2 : ∀ w ∈ u_ws RX2 TX2 4, w ∈ zTs := zin_of (ps := zplaces.getD 2 []) rfl (by decide +kernel)
theorem zu3 : ∀ w ∈ u_ws RX3 TX3 11, w ∈ zTs := zin_of (ps := zplaces.getD 3 []) rfl (by decide +kernel)
theorem zu4 : ∀ w ∈ u_ws RX4 TX4 5, w ∈ zTs := zin_of (ps := zplaces.getD 4 []) rfl (by decide +kernel)
theorem zu5 : ∀ w ∈ u_ws RX5 TX5 15, w ∈ zTs := zin_of (ps := zplaces.getD 5 []) rfl (by decide +kernel)
theorem zu6 : ∀ w ∈ u_ws RX6 TX6 4, w ∈ zTs := zin_of (ps := zplaces.getD 6 []) rfl (by decide +kernel)
theorem zu7 : ∀ w ∈ u_ws RX7 TX7 4, w ∈ zTs := zin_of (ps := zplaces.getD 7 []) rfl (by decide +kernel)
/-- what is known of class ci: its name, its fields, their types -/
def zCl (ci : Nat) (C : String) (T : u_T) (N : Nat) (ty : Nat → FieldType) : Prop :=
  vwCl[ci]? = some (C, T, N) ∧ (∀ w ∈ u_ws C T N, w ∈ zTs) ∧ (∀ k, k < N → parseFieldDescriptor (T k).2.2.1 = some (ty k)) ∧ (∀ a, a < N → ∀ b, b < N → a ≠ b → (T a).2.1 ≠ (T b).2.1) ∧ ztys.getD ci tyX0 = ty ∧ znf.getD ci 0 = N
theorem zCl_all {ci : Nat} (h : ci < 8) : ∃ C T N ty, zCl ci C T N ty := by
  match ci, h with
  | 0, _ => exact ⟨_, _, _, _, rfl, zu0, tyX0_ok, nmX0, rfl, rfl⟩
  | 1, _ => exact ⟨_, _, _, _, rfl, zu1, tyX1_ok, nmX1, rfl, rfl⟩
  | 2, _ => exact ⟨_, _, _, _, rfl, zu2, tyX2_ok, nmX2, rfl, rfl⟩
  | 3, _ => exact ⟨_, _, _, _, rfl, zu3, tyX3_ok, nmX3, rfl, rfl⟩
  | 4, _ => exact ⟨_, _, _, _, rfl, zu4, tyX4_ok, nmX4, rfl, rfl⟩
  | 5, _ => exact ⟨_, _, _, _, rfl, zu5, tyX5_ok, nmX5, rfl, rfl⟩
  | 6, _ => exact ⟨_, _, _, _, rfl, zu6, tyX6_ok, nmX6, rfl, rfl⟩
  | 7, _ => exact ⟨_, _, _, _, rfl, zu7, tyX7_ok, nmX7, rfl, rfl⟩
  | n + 8, h => omega
def zTk (ci k : Nat) : String × String × String × Bool := (vwCl.getD ci (RX0, TX0, 0)).2.1 k
theorem zTk_eq {ci k : Nat} {C : String} {T : u_T} {N : Nat} {ty : Nat → FieldType} (h : zCl ci C T N ty) : zTk ci k = T k := by
  unfold zTk
  rw [List.getD_eq_getElem?_getD, h.1]; rfl
theorem zcell_obj {G : zG} {k n : Nat} {f : Int → Int} (h : k < 8) : zcell G k n f = .inr (k, (List.range n).map fun j => zcv G (ztag (zft k j) (f j))) := by
  unfold zcell
  rw [if_pos (by omega)]
theorem zcell_arr {G : zG} {k n : Nat} {f : Int → Int} (h : 100 ≤ k) : zcell G k n f = .inl (gA G (k - 100), n, zarr G k f) := by
  unfold zcell
  rw [if_neg (by omega)]
theorem zfield_at {G : zG} {k n j : Nat} {f : Int → Int} (hj : j < n) : ((List.range n).map fun j => zcv G (ztag (zft k j) (f j)))[j]? = some (zcv G (ztag (zft k j) (f j))) := by
  rw [List.getElem?_map, List.getElem?_range hj]; rfl
theorem zrg_wf {k j : Nat} {x : Int} (hk : k < 100) (h : zrg k j x) : zwf (ztag (zft k j) x) := by
  have e : zvt k j = (ztag (zft k j) 0).1 := by unfold zvt; rw [if_pos hk]
  have e1 : (ztag (zft k j) x).1 = (ztag (zft k j) 0).1 := by unfold ztag; split <;> rfl
  have e2 : (ztag (zft k j) x).2 = x := by unfold ztag; split <;> rfl
  unfold zwf
  rw [e1, e2, ← e]
  exact h
noncomputable def zc_get : zChk := fun y pc i => i.2.1 == 3 && decide (i.2.2.1 < 8) && zdc y pc (.getfield i.2.2.2.2.1.toNat) 3 && zw (i.2.2.2.2.2.getD 0 0).toNat (.fieldLink (zmn y).cls i.2.2.2.2.1.toNat (zTk i.2.2.1 i.2.2.2.1).1 (zTk i.2.2.1 i.2.2.2.1).2.1 (zTk i.2.2.1 i.2.2.2.1).2.2.1)
theorem zp_get : zSound (zs_get, zc_get) := by
  intro G y p l e R s m args below meth c H locs Q n0 m0 nF mF cx hRc hRs hRf hRl i pc ls st S lm pc' ls' st' S' hc hs hat hn0 hm0 hnF hmF kk
  obtain ⟨hx, hb, hml, hown, hts, hfix, -⟩ := cx
  obtain ⟨op, len, a, b, k, ex⟩ := i
  unfold zs_get at hs
  dsimp only at hs
  simp only [zc_get, Bool.and_eq_true, beq_iff_eq, decide_eq_true_eq] at hc
  obtain ⟨⟨⟨rfl, hci⟩, hd⟩, hw⟩ := hc
  obtain ⟨C, T, N, ty, hCl⟩ := zCl_all hci
  rw [zTk_eq hCl] at hw
  split at hs
  · rename_i av st1
    split at hs
    · rename_i c1 n1 hsh
      split at hs
      · rename_i hif
        obtain ⟨rfl, hb1, h32⟩ := hif
        cases hs
        obtain ⟨g1, g2, g3⟩ := zsh_own (G := G) h32 hsh
        obtain ⟨hsz, hP, hI⟩ := hat.1
        obtain ⟨-, hkn, hrg⟩ := hI.2.2.2.2 _ _ _ g1
        have hN : n1 = N := by
          rcases hkn with h | h
          · rw [h.2]; exact hCl.2.2.2.2.2
          · omega
        subst hN
        have hget := zws_get (G := G) g1
        rw [zcell_obj hci, ← g2, ← g3] at hget
        have hrg1 := hrg b
        rw [← g2] at hrg1
        have K := kk H locs lm (hat.st (zwf_cons (zrg_wf (by omega) hrg1) (zwf_tl hat.2.2.2.2.2)))
        rw [List.map_cons, zcv_ref (by omega)]
        exact va_get hx hb hts hCl.2.1 hown hfix.1 hP _ hget hCl.1 b hb1 (hts _ (zw_in hw)) (fun _ h => h) (zfield_at hb1) (zdc_eq hd) K
      · cases hs
    · cases hs
  · cases hs
theorem zb8_r {x : Int} (h : zb8 x = true) : -128 ≤ x ∧ x ≤ 127 := by simpa [zb8] using h
theorem zb8_n {x : Int} (h : zb8 x = true) : narrow .byte (.int (Int32.ofInt x)) = .int (Int32.ofInt x) := by
  obtain ⟨h1, h2⟩ := zb8_r h
  show Value.int _ = _
  congr 1
  apply Int32.toInt_inj.mp
  rw [Int8.toInt_toInt32, Int32.toInt_toInt8, z32 ⟨by omega, by omega⟩]
  exact Int.bmod_eq_of_le (by omega) (by omega)
theorem zb8_all : (List.range 256).all (fun k => fits .byte (.int (Int32.ofInt ((k : Int) - 128)))) = true := by decide +kernel
theorem zb8_f {x : Int} (h : zb8 x = true) : fits .byte (.int (Int32.ofInt x)) = true := by
  obtain ⟨h1, h2⟩ := zb8_r h
  have := List.all_eq_true.mp zb8_all (x + 128).toNat (List.mem_range.mpr (by omega))
  rwa [show (((x + 128).toNat : Nat) : Int) - 128 = x by omega] at this
theorem zb8_fit {G : zG} {x : Int} (h : zb8 x = true) : narrow .byte (zcv G (0, x)) = zcv G (0, x) ∧ fits .byte (zcv G (0, x)) = true := ⟨zb8_n h, zb8_f h⟩
theorem zfit_of {G : zG} {ty : FieldType} {v : zV} (hty : ty = .int ∨ ty = .long ∨ ty = .boolean ∨ ty = .byte ∨ (∃ n, ty = .object n) ∨ ∃ t, ty = .array t) (hv : zokv (zkind ty) v = true) : narrow ty (zcv G v) = zcv G v ∧ fits ty (zcv G v) = true := by
  obtain ⟨t, x⟩ := v
  have href : ∀ t x, t = 2 → (zcv G (t, x) = .null ∨ ∃ a, zcv G (t, x) = .ref a) := by
    intro t x h
    subst h
    show (if x < 0 then _ else _) = _ ∨ ∃ a, (if x < 0 then _ else _) = _
    split
    · exact Or.inl rfl
    · exact Or.inr ⟨_, rfl⟩
  rcases hty with rfl | rfl | rfl | rfl | ⟨n, rfl⟩ | ⟨t2, rfl⟩
  · simp [zokv, zkind] at hv; subst hv; exact ⟨rfl, rfl⟩
  · simp [zokv, zkind] at hv; subst hv; exact ⟨rfl, rfl⟩
  · simp [zokv, zkind, zbool] at hv
    obtain ⟨rfl, rfl | rfl⟩ := hv
    · exact ⟨rfl, rfl⟩
    · exact ⟨rfl, rfl⟩
  · simp only [zokv, zkind, Bool.and_eq_true, beq_iff_eq] at hv
    obtain ⟨rfl, hb⟩ := hv
    exact zb8_fit hb
  · simp [zokv, zkind] at hv
    rcases href t x hv with h | ⟨a, h⟩ <;> rw [h] <;> exact ⟨rfl, rfl⟩
  · simp [zokv, zkind] at hv
    rcases href t x hv with h | ⟨a, h⟩ <;> rw [h] <;> exact ⟨rfl, rfl⟩
def zfok (ty : FieldType) : Bool := match ty with
  | .int => true
  | .long => true
  | .boolean => true
  | .byte => true
  | .object _ => true
  | .array _ => true
  | _ => false
theorem zfok_of {ty : FieldType} (h : zfok ty = true) : ty = .int ∨ ty = .long ∨ ty = .boolean ∨ ty = .byte ∨ (∃ n, ty = .object n) ∨ ∃ t, ty = .array t := by
  cases ty <;> simp_all [zfok]
theorem ztag_v {ft : Nat} {v : zV} (h : zokv ft v = true) : ztag ft v.2 = v := by
  obtain ⟨t, x⟩ := v
  unfold zokv at h
  unfold ztag
  split at h
  · simp at h; subst h; rfl
  · simp at h; subst h; rfl
  · simp at h; subst h; rfl
  · simp at h; rw [h.1]; rfl
  · rename_i h0 h1 h2 h4
    simp at h
    split
    · exact absurd rfl h0
    · exact absurd rfl h1
    · exact absurd rfl h2
    · rw [h.1]
theorem zset_fields {G : zG} {c n b : Nat} {f f' : Int → Int} {v : zV} (hb : b < n) (hv : zokv (zft c b) v = true) (h1 : f' b = v.2) (h2 : ∀ j : Int, j ≠ b → f' j = f j) :
    ((List.range n).map fun j => zcv G (ztag (zft c j) (f' j))) = ((List.range n).map fun j => zcv G (ztag (zft c j) (f j))).set b (zcv G v) := by
  apply List.ext_getElem?
  intro q
  rw [List.getElem?_set, List.length_map, List.length_range]
  by_cases hq : b = q
  · subst hq
    rw [if_pos rfl, if_pos hb, zfield_at hb, h1, ztag_v hv]
  · rw [if_neg hq]
    by_cases hq2 : q < n
    · rw [zfield_at hq2, zfield_at hq2, h2 q (by omega)]
    · rw [List.getElem?_eq_none (by simp; omega), List.getElem?_eq_none (by simp; omega)]
theorem zup_at {H : Int → Int → Int} {a j x : Int} : zup H a j x a j = x := by unfold zup; rw [if_pos ⟨rfl, rfl⟩]
theorem zup_ne {H : Int → Int → Int} {a j x a' j' : Int} (h : ¬ (a' = a ∧ j' = j)) : zup H a j x a' j' = H a' j' := by unfold zup; rw [if_neg h]
theorem zInv_up {G : zG} {S : zHp} {a j x : Int} {k n : Nat} (h : zInv G S) (ha : 32 ≤ a) (hs : S.2.1[(a - 32).toNat]? = some (k, n)) (hx : ∀ q : Nat, (q : Int) = j → zrg k q x) : zInv G (S.1, S.2.1, zup S.2.2 a j x) := by
  obtain ⟨h1, h2, h3, h4, h5⟩ := h
  refine ⟨h1, fun q => ?_, fun q hq => ?_, fun a' q ha1 ha2 => ?_, fun i k' n' hi => ?_⟩
  · show zup S.2.2 a j x 0 q = _
    rw [zup_ne (by omega)]; exact h2 q
  · show zup S.2.2 a j x 1 q = _
    rw [zup_ne (by omega)]; exact h3 q hq
  · show zup S.2.2 a j x a' q = _
    rw [zup_ne (by omega)]; exact h4 a' q ha1 ha2
  · obtain ⟨g1, g2, g3⟩ := h5 i k' n' hi
    refine ⟨g1, g2, fun q => ?_⟩
    show zrg k' q (zup S.2.2 a j x (32 + i) q)
    by_cases hc : (32 + (i : Int) = a ∧ (q : Int) = j)
    · have hi2 : i = (a - 32).toNat := by omega
      subst hi2
      cases hs.symm.trans hi
      rw [hc.1, hc.2, zup_at]
      exact hx q hc.2
    · rw [zup_ne hc]; exact g3 q
theorem zrg_of {k j : Nat} {v : zV} (hk : k < 100) (hw : zwf v) (hv : zokv (zft k j) v = true) : zrg k j v.2 := by
  have e : zvt k j = (ztag (zft k j) 0).1 := by unfold zvt; rw [if_pos hk]
  have e1 : (ztag (zft k j) v.2).1 = (ztag (zft k j) 0).1 := by unfold ztag; split <;> rfl
  rw [ztag_v hv] at e1
  unfold zrg
  rw [e, ← e1]
  exact hw
noncomputable def zc_put : zChk := fun y pc i => i.2.1 == 3 && decide (i.2.2.1 < 8) && zdc y pc (.putfield i.2.2.2.2.1.toNat) 3 && zw (i.2.2.2.2.2.getD 0 0).toNat (.fieldLink (zmn y).cls i.2.2.2.2.1.toNat (zTk i.2.2.1 i.2.2.2.1).1 (zTk i.2.2.1 i.2.2.2.1).2.1 (zTk i.2.2.1 i.2.2.2.1).2.2.1) && zfok ((ztys.getD i.2.2.1 tyX0) i.2.2.2.1) && (!(zTk i.2.2.1 i.2.2.2.1).2.2.2 || (decide ((zmn y).name = "<init>") && decide ((zTk i.2.2.1 i.2.2.2.1).1 = (zmn y).cls)))
theorem zp_put : zSound (zs_put, zc_put) := by
  intro G y p l e R s m args below meth c H locs Q n0 m0 nF mF cx hRc hRs hRf hRl i pc ls st S lm pc' ls' st' S' hc hs hat hn0 hm0 hnF hmF kk
  obtain ⟨hx, hb, hml, hown, hts, hfix, hnm⟩ := cx
  obtain ⟨op, len, a, b, k, ex⟩ := i
  unfold zs_put at hs
  dsimp only at hs
  simp only [zc_put, Bool.and_eq_true, Bool.or_eq_true, beq_iff_eq, decide_eq_true_eq, Bool.not_eq_true'] at hc
  obtain ⟨⟨⟨⟨⟨rfl, hci⟩, hd⟩, hw⟩, hfo⟩, hfin⟩ := hc
  obtain ⟨C, T, N, ty, hCl⟩ := zCl_all hci
  rw [zTk_eq hCl] at hw hfin
  rw [hCl.2.2.2.2.1] at hfo
  split at hs
  · rename_i v av st1
    split at hs
    · rename_i c1 n1 hsh
      split at hs
      · rename_i hif
        obtain ⟨rfl, hb1, h32, hok⟩ := hif
        cases hs
        obtain ⟨g1, g2, g3⟩ := zsh_own (G := G) h32 hsh
        obtain ⟨hsz, hP, hI⟩ := hat.1
        obtain ⟨-, hkn, hrg⟩ := hI.2.2.2.2 _ _ _ g1
        have hN : n1 = N := by
          rcases hkn with h | h
          · rw [h.2]; exact hCl.2.2.2.2.2
          · omega
        subst hN
        have hwv := zwf_hd hat.2.2.2.2.2
        have hwt := zwf_tl (zwf_tl hat.2.2.2.2.2)
        have hget := zws_get (G := G) g1
        rw [zcell_obj hci, ← g2, ← g3] at hget
        have hok' : zokv (zkind (ty b)) v = true := by rw [← hCl.2.2.2.2.1]; exact hok
        obtain ⟨hn1, hf1⟩ := zfit_of (G := G) (zfok_of hfo) hok'
        have hws : zws G (S.1, S.2.1, zup S.2.2 av b v.2) = (zws G S).set (av - 32).toNat (zad G av, .inr (c1, ((List.range n1).map fun j => zcv G (ztag (zft c1 j) (S.2.2 av j))).set b (zcv G v))) := by
          rw [zws_up h32 g1, zcell_obj hci, zset_fields hb1 hok (f := S.2.2 av) zup_at (fun j hj => zup_ne (fun q => hj q.2)), ← g3]
        have hI' : zInv G (S.1, S.2.1, zup S.2.2 av b v.2) := by
          refine zInv_up hI h32 g1 (fun q hq => ?_)
          have e : q = b := by omega
          rw [e]
          exact zrg_of (by omega) hwv hok
        rw [List.map_cons, List.map_cons, zcv_ref (by omega)]
        have K : ∀ (H1 : Heap) (locs1 : List Loc), H1.size = H.size → va_P (gD G) vwCl ((zws G S).set (av - 32).toNat (zad G av, .inr (c1, ((List.range n1).map fun j => zcv G (ztag (zft c1 j) (S.2.2 av j))).set b (zcv G v)))) H1 → va_S (zA G) s.heap H1 locs1 → W p l e R s m args below meth c H1 locs1 (S.2.1.length - n0) (zslots S - m0) Q (F0 m (pc + 3) lm (st'.map (zcv G))) := by
          intro H1 locs1 hz h1 h2
          rw [← hws] at h1
          exact kk H1 locs1 lm ⟨⟨by rw [hz]; exact hsz, h1, hI'⟩, h2, hat.2.2.1, hat.2.2.2.1, hat.2.2.2.2.1, hwt⟩
        have hlen : b < ((List.range n1).map fun j => zcv G (ztag (zft c1 j) (S.2.2 av j))).length := by simp; exact hb1
        obtain ⟨r, h1, cell, q1, q2, q3, q4⟩ := hP _ _ hget
        have hr : r = (C, T, n1) := Option.some.inj (h1.symm.trans hCl.1)
        subst hr
        obtain ⟨hS, hfc, kC, hkC, hkind⟩ := hfix.1.1 c1 _ hCl.1
        obtain ⟨cf, kf, fi, f, hi, hsl⟩ := hS b hb1
        have hap := va_apart (own := (zmn y).cls) hts hCl.2.1 ty hCl.2.2.1 hCl.2.2.2.1 hfix.1 hCl.1
        have hst := (u_facts hfc hkC (u_lays hts hCl.2.1 hb1) hi).1
        have hlay := hts _ (hCl.2.1 _ (u_in_lay hb1))
        unfold u_lay at hlay
        have hfl : f.slot < cell.slots.size := by rw [hsl]; exact k2_hasslot (q4 b hb1)
        have hAd : zA G (zad G av) := by show gB G ≤ zad G av; omega
        have KK : ∀ H1 : Heap, H1[zad G av]? = some (cell.setSlot f.slot (zcv G v)) → H1.size = H.size → (∀ q, q ≠ zad G av → H1[q]? = H[q]?) → W p l e R s m args below meth c H1 (locs ++ [⟨zad G av, f.slot⟩]) (S.2.1.length - n0) (zslots S - m0) Q (F0 m (pc + 3) lm (st'.map (zcv G))) := by
          intro H1 e1 e2 e3
          rw [hsl] at e1
          exact K H1 _ e2 (hP.set (zws_D G S) hget ⟨_, hCl.1, t_OB.to (V := updV (vp_V _) b (zcv G v)) ⟨_, e1, q2, q3, t_set q4 hap hb1 (zcv G v)⟩ (fun j _ => vp_updV_set hlen (zcv G v) j)⟩ e3) (hat.2.1.put e2 e3 hAd)
        rcases hfin with hfin | ⟨hin, hdecl⟩
        · rw [if_neg (by rw [hfin]; decide)] at hlay
          have h6 := u_store hfc hkC hkind hlay hi (hCl.2.2.1 b hb1) hn1 hf1
          exact W.putK hx hb (f := f) ⟨hown, hts _ (zw_in hw), ⟨_, _, _, hi⟩, hst⟩ (by rw [q2]; exact h6) q1 q3 hfl rfl rfl (zdc_eq hd) KK
        · have hin2 : meth.name = "<init>" := hnm hin
          by_cases hf2 : (T b).2.2.2 = true
          · rw [if_pos hf2] at hlay
            have hcf : m.cls = cf := by
              obtain ⟨_, _, c', _, _, _, -, -, hf', -, -, -, hown2, -⟩ := Cond.laysFinal_spec hlay
              have e1 : c' = cf := by have := hi.symm.trans hf'; simp at this; exact this.1.symm
              rw [hdecl] at hown2
              rw [← e1]; exact Option.some.inj (hown.symm.trans hown2)
            have h6 := u_fits hfc hkC hkind (Or.inr hlay) hi (hCl.2.2.1 b hb1) hn1 hf1
            exact W.putFinK hx hb hown (hts _ (zw_in hw)) hi hst hcf hin2 (by rw [q2]; exact h6) q1 q3 hfl rfl rfl (zdc_eq hd) KK
          · rw [if_neg hf2] at hlay
            have h6 := u_store hfc hkC hkind hlay hi (hCl.2.2.1 b hb1) hn1 hf1
            exact W.putK hx hb (f := f) ⟨hown, hts _ (zw_in hw), ⟨_, _, _, hi⟩, hst⟩ (by rw [q2]; exact h6) q1 q3 hfl rfl rfl (zdc_eq hd) KK
      · cases hs
    · cases hs
  · cases hs
-- arrays
theorem zarr_i {G : zG} {k : Nat} {f : Int → Int} (h1 : ¬ k = 101) (h2 : k < 104) : zarr G k f = .inl fun j => Int32.ofInt (f j) := by unfold zarr; rw [if_neg h1, if_pos h2]
theorem zarr_l {G : zG} {f : Int → Int} : zarr G 101 f = .inr (.inl fun j => Int64.ofInt (f j)) := by unfold zarr; rw [if_pos rfl]
theorem zarr_q {G : zG} {k : Nat} {f : Int → Int} (h2 : 104 ≤ k) : zarr G k f = .inr (.inr (.inr (.inr fun j => if f j < 0 then none else some (zad G (f j))))) := by unfold zarr; rw [if_neg (by omega), if_neg (by omega)]
theorem zTys_at (G : zG) {k : Nat} (h : 100 ≤ k) (h2 : k < 106) : ∃ ty, (zTys G)[k - 100]? = some (gA G (k - 100), ty) := by
  have : k = 100 ∨ k = 101 ∨ k = 102 ∨ k = 103 ∨ k = 104 ∨ k = 105 := by omega
  rcases this with rfl | rfl | rfl | rfl | rfl | rfl <;> exact ⟨_, rfl⟩
theorem zsh_for {S : zHp} {a : Int} {q : Nat × Nat} (h : zsh S a = some q) (ha : a < 32) : 0 ≤ a ∧ zF S.1 a = some q := by
  unfold zsh at h
  split at h
  · cases h
  · first
      | exact ⟨by omega, h⟩
      | (rw [if_pos ha] at h; exact ⟨by omega, h⟩)
theorem zad_for {G : zG} {a : Int} (h : a < 32) : zad G a = if a = 0 then gb G else if a = 1 then gT G else if a < 10 then gK G (a - 2).toNat else if a < 18 then gV G (a - 10).toNat else if a < 22 then gK G (a - 10).toNat else if a < 26 then gV G (a - 14).toNat else gE G (a - 26).toNat := by unfold zad; rw [if_pos h]
/-- the cell of a text's bytes -/
def zbc (i : Nat) : Int := if i < 8 then 10 + i else 14 + i
/-- a foreign array: the script, the table, a text's bytes, LAWS, the digits -/
theorem zfor_arr {S : zHp} {a : Int} {k n : Nat} (h : zsh S a = some (k, n)) (ha : a < 32) (hk : 91 ≤ k) : (a = 0 ∧ k = 100 ∧ n = S.1) ∨ (a = 1 ∧ k = 100 ∧ n = 168) ∨ (∃ i : Nat, i < 12 ∧ a = zbc i ∧ k = 91 ∧ n = (zstrs.getD i []).length) ∨ (a = 26 ∧ k = 92 ∧ n = 4) ∨ ((a = 27 ∨ a = 28) ∧ k = 93 ∧ n = 100) := by
  obtain ⟨h0, h1⟩ := zsh_for h ha
  unfold zF at h1
  split at h1
  · cases h1; exact Or.inl ⟨by assumption, rfl, rfl⟩
  · split at h1
    · cases h1; exact Or.inr (Or.inl ⟨by assumption, rfl, rfl⟩)
    · split at h1
      · cases h1; omega
      · split at h1
        · cases h1; exact Or.inr (Or.inr (Or.inl ⟨(a - 10).toNat, by omega, by unfold zbc; rw [if_pos (by omega)]; omega, rfl, rfl⟩))
        · split at h1
          · cases h1; omega
          · split at h1
            · cases h1; exact Or.inr (Or.inr (Or.inl ⟨(a - 14).toNat, by omega, by unfold zbc; rw [if_neg (by omega)]; omega, rfl, rfl⟩))
            · split at h1
              · cases h1; exact Or.inr (Or.inr (Or.inr (Or.inl ⟨by assumption, rfl, rfl⟩)))
              · split at h1
                · cases h1; exact Or.inr (Or.inr (Or.inr (Or.inr ⟨by omega, rfl, rfl⟩)))
                · cases h1
theorem zad_bc {G : zG} {i : Nat} (hi : i < 12) : zad G (zbc i) = gV G i ∧ 0 ≤ zbc i ∧ zbc i < 32 ∧ 2 ≤ zbc i := by
  unfold zbc
  split
  · refine ⟨?_, by omega, by omega, by omega⟩
    rw [zad_for (by omega), if_neg (by omega), if_neg (by omega), if_neg (by omega), if_pos (by omega), show ((10 : Int) + i - 10).toNat = i by omega]
  · refine ⟨?_, by omega, by omega, by omega⟩
    rw [zad_for (by omega), if_neg (by omega), if_neg (by omega), if_neg (by omega), if_neg (by omega), if_neg (by omega), if_pos (by omega), show ((14 : Int) + i - 14).toNat = i by omega]
theorem zcn_bc {i : Nat} (hi : i < 12) (j : Int) : zcn (zbc i) j = (zstrs.getD i []).getD j.toNat 0 := by
  unfold zbc zcn
  split
  · rw [if_pos (by omega), show ((10 : Int) + i - 10).toNat = i by omega]
  · rw [if_neg (by omega), if_pos (by omega), show ((14 : Int) + i - 14).toNat = i by omega]
/-- what a foreign cell holds -/
theorem zInv.cn {G : zG} {S : zHp} (h : zInv G S) {a j : Int} (h2 : 2 ≤ a) (h32 : a < 32) (hj : 0 ≤ j) : S.2.2 a j = zcn a j := by
  have := h.2.2.2.1 a.toNat j.toNat (by omega) (by omega)
  rwa [show ((a.toNat : Nat) : Int) = a by omega, show ((j.toNat : Nat) : Int) = j by omega] at this
theorem zstr_len {i : Nat} (hi : i < 12) : zstrlen.getD i 0 = (zstrs.getD i []).length := by
  match i, hi with
  | 0, _ => rfl
  | 1, _ => rfl
  | 2, _ => rfl
  | 3, _ => rfl
  | 4, _ => rfl
  | 5, _ => rfl
  | 6, _ => rfl
  | 7, _ => rfl
  | 8, _ => rfl
  | 9, _ => rfl
  | 10, _ => rfl
  | 11, _ => rfl
  | n + 12, h => omega
def zc_alen : zChk := fun y pc i => i.2.1 == 1 && zdc y pc .arraylength 1
theorem zp_alen : zSound (zs_alen, zc_alen) := by
  intro G y p l e R s m args below meth c H locs Q n0 m0 nF mF cx hRc hRs hRf hRl i pc ls st S lm pc' ls' st' S' hc hs hat hn0 hm0 hnF hmF kk
  obtain ⟨hx, hb, hml, hown, hts, hfix, hnm⟩ := cx
  obtain ⟨op, len, a, b, k, ex⟩ := i
  unfold zs_alen at hs
  dsimp only at hs
  simp only [zc_alen, Bool.and_eq_true, beq_iff_eq] at hc
  obtain ⟨rfl, hd⟩ := hc
  split at hs
  · rename_i av st1
    split at hs
    · rename_i c1 n1 hsh
      split at hs
      · rename_i h91
        cases hs
        obtain ⟨hsz, hP, hI⟩ := hat.1
        have hnum : Int32.ofNat n1 = Int32.ofInt (n1 : Int) := Int32.ofInt_eq_ofNat.symm
        by_cases h32 : 32 ≤ av
        · obtain ⟨g1, g2, g3⟩ := zsh_own (G := G) h32 hsh
          obtain ⟨hn2, hkn, hrg⟩ := hI.2.2.2.2 _ _ _ g1
          have hk : 100 ≤ c1 ∧ c1 < 106 := by omega
          have hget := zws_get (G := G) g1
          rw [zcell_arr hk.1, ← g2, ← g3] at hget
          obtain ⟨ty, hty⟩ := zTys_at G hk.1 hk.2
          have K := kk H locs lm (hat.st (zwf_cons (zwfI ⟨by omega, by omega⟩) (zwf_tl hat.2.2.2.2.2)))
          rw [List.map_cons, zcv_ref (by omega)]
          exact va_alen hx hb hfix.1 hP _ _ hget hty hnum (zdc_eq hd) K
        · have h32' : av < 32 := by omega
          have h0 := (zsh_for hsh h32').1
          rw [List.map_cons, zcv_ref (by omega), zad_for h32']
          rcases zfor_arr hsh h32' h91 with ⟨rfl, rfl, rfl⟩ | ⟨rfl, rfl, rfl⟩ | ⟨i, hi, rfl, rfl, rfl⟩ | ⟨rfl, rfl, rfl⟩ | ⟨haa, rfl, rfl⟩
          · rw [if_pos rfl]
            have hL := hI.1
            have K := kk H locs lm (hat.st (zwf_cons (zwfI ⟨by omega, by omega⟩) (zwf_tl hat.2.2.2.2.2)))
            rw [List.map_cons, show zcv G (zI (S.1 : Int)) = .int (Int32.ofInt (S.1 : Int)) from rfl, ← hnum, hL.1] at K
            exact va_slen hx hb hfix.2.1 (Nat.lt_of_lt_of_le hfix.2.2.1.1 hfix.2.2.1.2) (fun q => by have := hfix.2.2.1.1; unfold zA at q; omega) hat.2.1 (zdc_eq hd) K
          · rw [if_neg (by decide), if_pos rfl]
            have K := kk H locs lm (hat.st (zwf_cons (zwfI ⟨by omega, by omega⟩) (zwf_tl hat.2.2.2.2.2)))
            exact va_tlen hx hb hfix.2.2.2.2.1 hat.2.1 hnum (zdc_eq hd) K
          · rw [← zad_for h32', (zad_bc hi).1]
            have hl8 : (zstrs.getD i []).length < 100 := by
              have : ∀ j, j < 12 → (zstrs.getD j []).length < 100 := by decide
              exact this i hi
            have K := kk H locs lm (hat.st (zwf_cons (zwfI ⟨by omega, by omega⟩) (zwf_tl hat.2.2.2.2.2)))
            refine va_tlen hx hb ((hfix.2.2.2.2.2.2.2.2.1).1 i hi).2.2.2 hat.2.1 ?_ (zdc_eq hd) K
            rw [zstr_len hi]; exact hnum
          · rw [if_neg (by decide), if_neg (by decide), if_neg (by decide), if_neg (by decide), if_neg (by decide), if_neg (by decide)]
            have K := kk H locs lm (hat.st (zwf_cons (zwfI ⟨by omega, by omega⟩) (zwf_tl hat.2.2.2.2.2)))
            exact va_tlen hx hb hfix.2.2.2.2.2.2.2.2.2.2.2.2.2.1.2 hat.2.1 hnum (zdc_eq hd) K
          · have K := kk H locs lm (hat.st (zwf_cons (zwfI ⟨by omega, by omega⟩) (zwf_tl hat.2.2.2.2.2)))
            rcases haa with rfl | rfl
            · rw [if_neg (by decide), if_neg (by decide), if_neg (by decide), if_neg (by decide), if_neg (by decide), if_neg (by decide)]
              exact va_tlen hx hb hfix.2.2.2.2.2.2.2.2.2.2.2.2.2.2.1.2 hat.2.1 hnum (zdc_eq hd) K
            · rw [if_neg (by decide), if_neg (by decide), if_neg (by decide), if_neg (by decide), if_neg (by decide), if_neg (by decide)]
              exact va_tlen hx hb hfix.2.2.2.2.2.2.2.2.2.2.2.2.2.2.2.1.2 hat.2.1 hnum (zdc_eq hd) K
      · cases hs
    · cases hs
  · cases hs
theorem zsmall_r : ∀ j, j < 168 → r32 (zsmall.getD j 0) := by
  have h : (List.range 168).all (fun j => zi32 (zsmall.getD j 0)) = true := by decide +kernel
  intro j hj
  exact zi32_r (List.all_eq_true.mp h j (List.mem_range.mpr hj))
theorem zstr_r : ∀ i, i < 12 → ∀ j, j < 100 → r32 ((zstrs.getD i []).getD j 0) ∧ (zstrbyt.getD i []).getD j 0 = Int32.ofInt ((zstrs.getD i []).getD j 0) := by
  have h : (List.range 12).all (fun i => (List.range 100).all fun j => zi32 ((zstrs.getD i []).getD j 0) && decide ((zstrbyt.getD i []).getD j 0 = Int32.ofInt ((zstrs.getD i []).getD j 0))) = true := by decide +kernel
  intro i hi j hj
  have h1 := List.all_eq_true.mp (List.all_eq_true.mp h i (List.mem_range.mpr hi)) j (List.mem_range.mpr hj)
  simp only [Bool.and_eq_true, decide_eq_true_eq] at h1
  exact ⟨zi32_r h1.1, h1.2⟩
def zIld (a : Nat) : Option Instr := match a with
  | 0 => some .iaload
  | 1 => some .laload
  | 2 => some .baload
  | 4 => some .aaload
  | _ => none
def zc_ald : zChk := fun y pc i => i.2.1 == 1 && zdo y pc (zIld i.2.2.1) 1
theorem zrg_arr {k j : Nat} {x : Int} (hk : 100 ≤ k) (h : zrg k j x) : (k = 101 → r64 x) ∧ (¬ k = 101 → k < 104 → r32 x) := by
  unfold zrg zvt at h
  rw [if_neg (by omega)] at h
  constructor
  · intro e
    rw [if_pos e] at h
    exact h.2 rfl
  · intro e e2
    rw [if_neg e, if_pos e2] at h
    exact h.1 rfl
theorem zp_ald : zSound (zs_ald, zc_ald) := by
  intro G y p l e R s m args below meth c H locs Q n0 m0 nF mF cx hRc hRs hRf hRl i pc ls st S lm pc' ls' st' S' hc hs hat hn0 hm0 hnF hmF kk
  obtain ⟨hx, hb, hml, hown, hts, hfix, hnm⟩ := cx
  obtain ⟨op, len, a, b, k, ex⟩ := i
  unfold zs_ald at hs
  dsimp only at hs
  simp only [zc_ald, Bool.and_eq_true, beq_iff_eq] at hc
  obtain ⟨rfl, hd⟩ := hc
  split at hs
  · rename_i jv av st1
    split at hs
    · rename_i c1 n1 hsh
      split at hs
      · rename_i hif
        obtain ⟨hok, hj0, hjn⟩ := hif
        cases hs
        obtain ⟨hsz, hP, hI⟩ := hat.1
        have hjr := (zwf_hd hat.2.2.2.2.2).1 rfl
        have hwt := zwf_tl (zwf_tl hat.2.2.2.2.2)
        have hvin := z_in hjr hj0 hjn
        have hcl := z_clamp hjr hj0
        have hjj : ((jv.toNat : Nat) : Int) = jv := by omega
        rw [List.map_cons, List.map_cons, show zcv G (0, jv) = .int (Int32.ofInt jv) from rfl]
        by_cases h32 : 32 ≤ av
        · obtain ⟨g1, g2, g3⟩ := zsh_own (G := G) h32 hsh
          obtain ⟨hn2, hkn, hrg⟩ := hI.2.2.2.2 _ _ _ g1
          have hk : 100 ≤ c1 ∧ c1 < 106 := by
            unfold zldok at hok
            split at hok <;> simp at hok <;> omega
          have hget := zws_get (G := G) g1
          rw [zcell_arr hk.1, ← g2, ← g3] at hget
          have hr := zrg_arr hk.1 (hrg jv.toNat)
          rw [← g2, hjj] at hr
          rw [zcv_ref (by omega)]
          unfold zldok at hok
          split at hok
          · have e : c1 = 100 := by simpa using hok
            subst e
            rw [zarr_i (by decide) (by decide)] at hget
            have K := kk H locs lm (hat.st (zwf_cons (zwfI (hr.2 (by decide) (by decide))) hwt))
            refine va_iald hx hb hfix.1 hP _ 0 hget rfl hvin (zdc_eq hd) ?_
            rw [hcl, hjj]
            exact K
          · have e : c1 = 101 := by simpa using hok
            subst e
            rw [zarr_l] at hget
            have K := kk H locs lm (hat.st (zwf_cons (zwfL (hr.1 rfl)) hwt))
            refine va_lald hx hb hfix.1 hP _ 1 hget rfl hvin (zdc_eq hd) ?_
            rw [hcl, hjj]
            exact K
          · have e : c1 = 102 := by simp at hok; omega
            subst e
            rw [zarr_i (by decide) (by decide)] at hget
            have K := kk H locs lm (hat.st (zwf_cons (zwfI (hr.2 (by decide) (by decide))) hwt))
            refine va_bald hx hb hfix.1 hP _ 2 hget rfl hvin (zdc_eq hd) ?_
            rw [hcl, hjj]
            exact K
          · rename_i t2 h0 h1 h2
            have ha4 : a = 4 := by
              unfold zIld at hd
              split at hd
              · exact absurd rfl h0
              · exact absurd rfl h1
              · exact absurd rfl h2
              · rfl
              · cases hd
            subst ha4
            have e104 : 104 ≤ c1 := by simp at hok; omega
            rw [zarr_q e104] at hget
            have K := kk H locs lm (hat.st (zwf_cons (zwfR _) hwt))
            have e : c1 = 104 ∨ c1 = 105 := by omega
            have hv2 : va_rf (if S.2.2 av jv < 0 then none else some (zad G (S.2.2 av jv))) = zcv G (zR (S.2.2 av jv)) := by
              show _ = (if S.2.2 av jv < 0 then _ else _)
              split <;> rfl
            rcases e with rfl | rfl
            · refine va_aldq hx hb hfix.1 hP _ 4 (C := RX0) hget rfl hvin (zdc_eq hd) ?_
              rw [hcl, hjj, hv2]
              exact K
            · refine va_aldq hx hb hfix.1 hP _ 5 (C := RX4) hget rfl hvin (zdc_eq hd) ?_
              rw [hcl, hjj, hv2]
              exact K
        · have h32' : av < 32 := by omega
          have h0 := (zsh_for hsh h32').1
          rw [zcv_ref (by omega), zad_for h32']
          have h91 : 91 ≤ c1 := by
            unfold zldok at hok
            split at hok <;> simp at hok <;> omega
          rcases zfor_arr hsh h32' h91 with ⟨rfl, rfl, rfl⟩ | ⟨rfl, rfl, rfl⟩ | ⟨i, hi, rfl, rfl, rfl⟩ | ⟨rfl, rfl, rfl⟩ | ⟨haa, rfl, rfl⟩
          · rw [if_pos rfl]
            have ha0 : a = 0 := by
              unfold zldok at hok
              split at hok
              · rfl
              · simp at hok
              · simp at hok
              · simp at hok
            subst ha0
            have hL := hI.1
            have hsc := hI.2.1 jv.toNat
            rw [hjj] at hsc
            have K := kk H locs lm (hat.st (zwf_cons (zwfI (x := S.2.2 0 jv) (by rw [hsc]; exact r32_i _)) hwt))
            rw [hL.1] at hvin
            refine va_sld hx hb hfix.2.1 (Nat.lt_of_lt_of_le hfix.2.2.1.1 hfix.2.2.1.2) (fun q => by have := hfix.2.2.1.1; unfold zA at q; omega) hat.2.1 hvin (zdc_eq hd) ?_
            rw [List.map_cons, show zcv G (ztag (if 0 = 4 then 2 else if 0 = 1 then 1 else 0) (S.2.2 0 jv)) = .int (Int32.ofInt (S.2.2 0 jv)) from rfl, hsc, Int32.ofInt_toInt] at K
            rw [hcl]
            exact K
          · rw [if_neg (by decide), if_pos rfl]
            have ha0 : a = 0 := by
              unfold zldok at hok
              split at hok
              · rfl
              · simp at hok
              · simp at hok
              · simp at hok
            subst ha0
            have hsc := hI.2.2.1 jv.toNat (by omega)
            rw [hjj] at hsc
            have K := kk H locs lm (hat.st (zwf_cons (zwfI (x := S.2.2 1 jv) (by rw [hsc]; exact zsmall_r _ (by omega))) hwt))
            refine va_ti hx hb hfix.2.2.2.2.1 hat.2.1 hvin rfl (zdc_eq hd) ?_
            rw [hcl, ← hsc]
            exact K
          · rw [← zad_for h32', (zad_bc hi).1]
            have ha2 : a = 2 := by
              unfold zldok at hok
              split at hok
              · simp at hok
              · simp at hok
              · rfl
              · simp at hok
            subst ha2
            have hl8 : (zstrs.getD i []).length < 100 := by
              have : ∀ j, j < 12 → (zstrs.getD j []).length < 100 := by decide
              exact this i hi
            have hsc := (hI.cn (zad_bc (G := G) hi).2.2.2 (zad_bc (G := G) hi).2.2.1 hj0).trans (zcn_bc hi jv)
            have hst := zstr_r i hi jv.toNat (by omega)
            have K := kk H locs lm (hat.st (zwf_cons (zwfI (x := S.2.2 (zbc i) jv) (by rw [hsc]; exact hst.1)) hwt))
            rw [← zstr_len hi] at hvin
            refine va_tb hx hb ((hfix.2.2.2.2.2.2.2.2.1).1 i hi).2.2.2 hat.2.1 hvin rfl (zdc_eq hd) ?_
            rw [hcl, hst.2, ← hsc]
            exact K
          · rw [if_neg (by decide), if_neg (by decide), if_neg (by decide), if_neg (by decide), if_neg (by decide), if_neg (by decide)]
            have ha4 : a = 4 := by
              unfold zldok at hok
              split at hok
              · simp at hok
              · simp at hok
              · simp at hok
              · rename_i h0 h1 h2
                unfold zIld at hd
                split at hd
                · exact absurd rfl h0
                · exact absurd rfl h1
                · exact absurd rfl h2
                · rfl
                · cases hd
            subst ha4
            have hsc : S.2.2 26 jv = 6 + jv := hI.cn (by decide) (by decide) hj0
            have K := kk H locs lm (hat.st (zwf_cons (zwfR (S.2.2 26 jv)) hwt))
            refine vb_tq hx hb hfix.2.2.2.2.2.2.2.2.2.2.2.2.2.1.2 hat.2.1 hvin (v := zcv G (zR (S.2.2 26 jv))) ?_ (zdc_eq hd) K
            rw [hsc, zcv_ref (by omega), hcl]
            congr 1
            rw [zad_for (by omega), if_neg (by omega), if_neg (by omega), if_pos (by omega)]
            congr 1
            omega
          · have ha2 : a = 2 := by
              unfold zldok at hok
              split at hok
              · simp at hok
              · simp at hok
              · rfl
              · simp at hok
            subst ha2
            have hr2 : r32 (zcn av jv) := by
              rcases haa with rfl | rfl
              · show r32 (48 + jv % 10)
                exact ⟨by omega, by omega⟩
              · show r32 (48 + jv / 10)
                exact ⟨by omega, by omega⟩
            have hsc : S.2.2 av jv = zcn av jv := hI.cn (by omega) (by omega) hj0
            have K := kk H locs lm (hat.st (zwf_cons (zwfI (x := S.2.2 av jv) (by rw [hsc]; exact hr2)) hwt))
            rcases haa with rfl | rfl
            · rw [if_neg (by decide), if_neg (by decide), if_neg (by decide), if_neg (by decide), if_neg (by decide), if_neg (by decide)]
              refine va_tb hx hb hfix.2.2.2.2.2.2.2.2.2.2.2.2.2.2.1.2 hat.2.1 hvin (v := .int (Int32.ofInt (S.2.2 27 jv))) ?_ (zdc_eq hd) K
              rw [hsc, hcl, hjj]
            · rw [if_neg (by decide), if_neg (by decide), if_neg (by decide), if_neg (by decide), if_neg (by decide), if_neg (by decide)]
              refine va_tb hx hb hfix.2.2.2.2.2.2.2.2.2.2.2.2.2.2.2.1.2 hat.2.1 hvin (v := .int (Int32.ofInt (S.2.2 28 jv))) ?_ (zdc_eq hd) K
              rw [hsc, hcl, hjj]
      · cases hs
    · cases hs
  · cases hs
