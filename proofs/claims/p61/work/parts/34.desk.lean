/-! the law's desk: the text that the cells tell -/
theorem zand31 (x : Int) : 0 ≤ zand x 2147483647 ∧ zand x 2147483647 < 2147483648 := by
  have h : (Int32.ofInt x &&& Int32.ofInt 2147483647).toBitVec.toNat ≤ 2147483647 := by
    rw [Int32.toBitVec_and, BitVec.toNat_and]
    exact Nat.le_trans Nat.and_le_right (by decide)
  have e : zand x 2147483647 = (Int32.ofInt x &&& Int32.ofInt 2147483647).toBitVec.toInt := rfl
  rw [e, BitVec.toInt_eq_toNat_cond, if_pos (by omega)]
  omega
def zDce (w : zWt) (i : Nat) : Int := if (w.1 : Int) ≤ (i : Int) then 0 else zH0 w.2.1 0 i
def zDpa (v : Int) (n : Nat) : Nat := (Int.tmod (zand v 2147483647) n).toNat
theorem zDpa_e {v : Int} {n : Nat} (hn : 0 < n) : Int.tmod (zand v 2147483647) n = (zDpa v n : Int) ∧ zDpa v n < n := by
  have h := zand31 v
  unfold zDpa
  obtain ⟨m, hm⟩ : ∃ m : Nat, zand v 2147483647 = m := ⟨(zand v 2147483647).toNat, by omega⟩
  rw [hm, show Int.tmod (m : Int) (n : Int) = ((m % n : Nat) : Int) from rfl]
  have := Nat.mod_lt m hn
  exact ⟨by omega, by omega⟩
def zDla (w : zWt) : Nat := zDpa (zDce w 0) 4
def zDbo (w : zWt) : Nat := 50 + zDpa (zshr (zDce w 0) 3) 4000
def zDst (w : zWt) : Nat := 1 + zDpa (zDce w 1) 12
def zDro (w : zWt) : Nat := 2 + zDpa (zshr (zDce w 1) 4) 3
def zDat (w : zWt) (k : Nat) : Nat := 1 + zDpa (zDce w (2 + k)) 1200
theorem zDla_r (w : zWt) : zDla w < 4 := (zDpa_e (by decide)).2
theorem zDbo_r (w : zWt) : 50 ≤ zDbo w ∧ zDbo w < 4050 := by have := (@zDpa_e (zshr (zDce w 0) 3) 4000 (by decide)).2; unfold zDbo; omega
theorem zDst_r (w : zWt) : 1 ≤ zDst w ∧ zDst w ≤ 12 := by have := (@zDpa_e (zDce w 1) 12 (by decide)).2; unfold zDst; omega
theorem zDro_r (w : zWt) : 2 ≤ zDro w ∧ zDro w ≤ 4 := by have := (@zDpa_e (zshr (zDce w 1) 4) 3 (by decide)).2; unfold zDro; omega
theorem zDat_r (w : zWt) (k : Nat) : 1 ≤ zDat w k ∧ zDat w k ≤ 1200 := by have := (@zDpa_e (zDce w (2 + k)) 1200 (by decide)).2; unfold zDat; omega
theorem zc_fr {w w' : zWt} (h : zwx w w') (i : Nat) : zDce w' i = zDce w i := by obtain ⟨E, rfl⟩ := h; rfl
theorem zDat_t (w : zWt) (k : Nat) : zDat w k < 10000 := by have := zDat_r w k; omega
theorem zDbo_t (w : zWt) : zDbo w < 10000 := by have := zDbo_r w; omega
theorem zDst_t (w : zWt) : zDst w < 10000 := by have := zDst_r w; omega
/-- a row's words; the rows' up to k; the whole text -/
def zDrw (i n : Nat) : List Int := zstrs.getD 11 [] ++ [97 + (i : Int)] ++ [32] ++ zdec n ++ [59]
def zDrs (w : zWt) : Nat → List Int
  | 0 => []
  | k + 1 => zDrs w k ++ zDrw k (zDat w k)
def zDhd (w : zWt) : List Int := zstrs.getD 8 [] ++ zstrs.getD (4 + zDla w) [] ++ zstrs.getD 9 [] ++ zdec (zDbo w) ++ zstrs.getD 10 [] ++ zdec (zDst w) ++ [59]
def zDtx (w : zWt) : List Int := zDhd w ++ zDrs w (zDro w)
theorem zdec_l4 {n : Nat} (h : n < 10000) : (zdec n).length ≤ 4 := by rw [zdec_len h]; repeat (first | omega | split)
theorem zstr20 {i : Nat} (hi : i < 12) : (zstrs.getD i []).length ≤ 20 := by
  have h1 := List.all_eq_true.mp zsc_all i (List.mem_range.mpr hi)
  simp only [Bool.and_eq_true, decide_eq_true_eq] at h1
  exact h1.1
theorem zDrw_l {i n : Nat} (hn : n < 10000) : (zDrw i n).length ≤ 11 := by
  have := zdec_l4 hn
  unfold zDrw
  simp only [List.length_append, show (zstrs.getD 11 []).length = 4 from rfl, show ([97 + (i : Int)] : List Int).length = 1 from rfl, show ([32] : List Int).length = 1 from rfl, show ([59] : List Int).length = 1 from rfl]
  omega
theorem zDrs_l {w : zWt} {k : Nat} : (zDrs w k).length ≤ 11 * k := by
  induction k with
  | zero => exact Nat.zero_le _
  | succ k ih =>
    have := @zDrw_l k (zDat w k) (by have := zDat_r w k; omega)
    show (zDrs w k ++ zDrw k (zDat w k)).length ≤ _
    rw [List.length_append]; omega
theorem zstr_r2 {i : Nat} (hi : i < 12) : ∀ x ∈ zstrs.getD i [], 0 ≤ x ∧ x < 128 := by
  have h1 := List.all_eq_true.mp zsc_all i (List.mem_range.mpr hi)
  simp only [Bool.and_eq_true, decide_eq_true_eq, List.all_eq_true] at h1
  exact h1.2
theorem zapp_r {u t : List Int} (h : ∀ x ∈ u, 0 ≤ x ∧ x < 128) (g : ∀ x ∈ t, 0 ≤ x ∧ x < 128) : ∀ x ∈ u ++ t, 0 ≤ x ∧ x < 128 := fun x hx => by
  rcases List.mem_append.mp hx with hx | hx
  · exact h x hx
  · exact g x hx
theorem zone_r {c : Int} (h : 0 ≤ c ∧ c < 128) : ∀ x ∈ [c], 0 ≤ x ∧ x < 128 := fun x hx => by rw [List.mem_singleton.mp hx]; exact h
theorem zDrw_r {i n : Nat} (hi : i < 20) (hn : n < 10000) : ∀ x ∈ zDrw i n, 0 ≤ x ∧ x < 128 :=
  zapp_r (zapp_r (zapp_r (zapp_r (zstr_r2 (by decide)) (zone_r (by omega))) (zone_r (by omega))) (zdec_r hn)) (zone_r (by omega))
theorem zDrs_r {w : zWt} {k : Nat} (hk : k ≤ 4) : ∀ x ∈ zDrs w k, 0 ≤ x ∧ x < 128 := by
  induction k with
  | zero => intro x hx; cases hx
  | succ k ih => exact zapp_r (ih (by omega)) (zDrw_r (by omega) (by have := zDat_r w k; omega))
theorem zDhd_r {w : zWt} : ∀ x ∈ zDhd w, 0 ≤ x ∧ x < 128 := by
  have := zDla_r w
  have := zDbo_r w
  have := zDst_r w
  exact zapp_r (zapp_r (zapp_r (zapp_r (zapp_r (zapp_r (zstr_r2 (by decide)) (zstr_r2 (by omega))) (zstr_r2 (by decide))) (zdec_r (by omega))) (zstr_r2 (by decide))) (zdec_r (by omega))) (zone_r (by omega))
theorem zDhd_l {w : zWt} : (zDhd w).length ≤ 80 := by
  have h1 := zDla_r w
  have := zDbo_r w
  have := zDst_r w
  have := @zdec_l4 (zDbo w) (zDbo_t w)
  have := @zdec_l4 (zDst w) (zDst_t w)
  have := @zstr20 (4 + zDla w) (by omega)
  unfold zDhd
  simp only [List.length_append, show (zstrs.getD 8 []).length = 4 from rfl, show (zstrs.getD 9 []).length = 7 from rfl, show (zstrs.getD 10 []).length = 7 from rfl, show ([59] : List Int).length = 1 from rfl]
  omega
section ZJ
variable {w : zWt} {d : Nat} {H : zHt} {o s : Int} {u t : List Int}
theorem zj170 {K : Int → zHt → Prop} {i : Nat} (k : K (zDce w i) H) : zclI w d 170 [zR 0, zI (i : Int)] H K := by
  unfold zDce at k
  refine x170_0 ⟨fun q => ?_, fun q => ⟨⟨by omega, q⟩, ?_⟩⟩
  · rw [if_pos q] at k; exact k
  · rw [if_neg (by omega)] at k; exact k
theorem zj171 {K : Int → zHt → Prop} {v : Int} {n : Nat} (hn : 0 < n) (k : K (zDpa v n : Int) H) : zclI w d 171 [zI v, zI (n : Int)] H K := by
  refine x171_0 ⟨by omega, ?_⟩
  rw [(zDpa_e hn).1]
  exact k
theorem zj180b {K : Int → zWt → zHt → Prop} (w0 : zWt) : ∀ (m k : Nat) (w : zWt) (H : zHt), k + m = zDro w0 → (zwx w0 w) → zSB w H o (zDhd w0 ++ zDrs w0 k) → (∀ s w' H', zTxt w' H' s (zDtx w0) → zFr (5 * m + 2) w H w' H' → K s w' H') → zga w (d + 6) 180 77 [zR 0, zR o, zI (k : Int)] [] H (zQaR K) := by
  intro m
  induction m with
  | zero =>
    intro k w H hk hx h hK
    have hro := zDro_r w0
    have e1 : zDro w = zDro w0 := by unfold zDro; rw [zc_fr hx]
    refine xa180_77 ?_
    refine zj170 (i := 1) (zj171 (n := 3) (by decide) ⟨fun _ => ⟨h.so.g0, h.so, ?_⟩, fun q => ?_⟩)
    · have hl := @zDhd_l w0
      have hl2 := @zDrs_l w0 k
      refine zj201 h (zapp_r zDhd_r (zDrs_r (by omega))) (by rw [List.length_append]; omega) ?_
      intro s w' H' ht hf
      refine ⟨ht.tt.ge, hK s w' H' ?_ (hf.le (by omega))⟩
      unfold zDtx
      rw [show zDro w0 = k by omega]
      exact ht
    · exfalso
      unfold zDro at hk e1
      rw [← hk] at e1
      have hz := (@zDpa_e (zshr (zDce w 1) 4) 3 (by decide)).2
      rw [w32_id (by omega)] at q
      omega
  | succ m ih =>
    intro k w H hk hx h hK
    have hro := zDro_r w0
    have e1 : zDro w = zDro w0 := by unfold zDro; rw [zc_fr hx]
    have hl := @zDhd_l w0
    have hl2 := @zDrs_l w0 k
    have hl3 : (zDhd w0 ++ zDrs w0 k).length ≤ 124 := by rw [List.length_append]; omega
    have c1 : (zstrs.getD 11 []).length = 4 := rfl
    refine xa180_77 ?_
    refine zj170 (i := 1) (zj171 (n := 3) (by decide) ⟨fun q => ?_, fun _ => ⟨h.so.g0, h.so, ?_⟩⟩)
    · exfalso
      unfold zDro at hk e1
      rw [← hk] at e1
      have hz := (@zDpa_e (zshr (zDce w 1) 4) 3 (by decide)).2
      rw [w32_id (by omega)] at q
      omega
    refine zj184 (s := zsc 11) h (zTxt_c (by decide)) (by omega) ?_
    intro w1 H1 h1 f1
    rw [w32_id (by omega)]
    refine ⟨by omega, h1.so, zj198 h1 (by omega) (by rw [List.length_append]; omega) ?_⟩
    intro w2 H2 h2 f2
    refine ⟨h2.so, zj198 h2 (by omega) (by rw [List.length_append, List.length_append]; show _ + 1 ≤ _; omega) ?_⟩
    intro w3 H3 h3 f3
    rw [w32_id (by omega), show (2 : Int) + (k : Int) = ((2 + k : Nat) : Int) by omega]
    refine zj170 (zj171 (n := 1200) (by decide) ⟨h3.so, ?_⟩)
    have f123 := (f1.tr f2).tr f3
    have ec : zDce w3 (2 + k) = zDce w0 (2 + k) := zc_fr (zwx_tr hx f123.1) _
    have ea : w32 (1 + (zDpa (zDce w3 (2 + k)) 1200 : Int)) = (zDat w0 k : Int) := by
      have := (@zDpa_e (zDce w0 (2 + k)) 1200 (by decide)).2
      rw [ec, w32_id (by omega)]
      unfold zDat
      omega
    rw [ea]
    refine zj194 h3 (zDat_t w0 k) (by rw [List.length_append, List.length_append, List.length_append]; show _ + 1 + 1 ≤ _; omega) ?_
    intro w4 H4 h4 f4
    have hl4 := @zdec_l4 (zDat w0 k) (zDat_t w0 k)
    refine ⟨h4.so, zj198 h4 (by omega) (by rw [List.length_append, List.length_append, List.length_append, List.length_append]; show _ + 1 + 1 + _ ≤ _; omega) ?_⟩
    intro w5 H5 h5 f5
    have f5' := (f123.tr f4).tr f5
    rw [w32_id (by omega), show (k : Int) + 1 = ((k + 1 : Nat) : Int) by omega]
    refine ih (k + 1) w5 H5 (by omega) (zwx_tr hx f5'.1) ?_ ?_
    · have e : zDhd w0 ++ zDrs w0 (k + 1) = zDhd w0 ++ zDrs w0 k ++ zstrs.getD 11 [] ++ [97 + (k : Int)] ++ [32] ++ zdec (zDat w0 k) ++ [59] := by
        show zDhd w0 ++ (zDrs w0 k ++ zDrw k (zDat w0 k)) = _
        unfold zDrw
        simp only [List.append_assoc]
      rw [e]
      exact h5
    · intro s w' H' ht hf
      exact hK s w' H' ht ((f5'.tr hf).le (by omega))
theorem zj180 {K : Int → zWt → zHt → Prop} (hK : ∀ s w' H', zTxt w' H' s (zDtx w) → zFr 40 w H w' H' → K s w' H') : zcaR w (d + 9) 180 [zR 0] H K := by
  have hla := zDla_r w
  have hbo := zDbo_r w
  have hst := zDst_r w
  have hro := zDro_r w
  refine xa180_0 ?_
  intro o ho w1 hw1 H1 e1
  have n81 := @zNc81 w
  have hx : zwx w w1 := by rw [hw1]; exact zwx_p
  have hn : zSh w1 o 6 4 := by rw [hw1, ho]; exact zSh_new
  have f1 : zFr 1 w H w1 H1 := by
    rw [hw1]
    exact zFr_nw (n := 4) (by decide) fun a ha => by rw [e1, znew_o (by omega)]
  refine ⟨hn, zj181 (s := zsc 8) hn ?_ (zTxt_c (by decide)) (by decide) ?_⟩
  · rw [e1, ho, znew_at]; rfl
  intro w2 H2 h2 f2
  have f12 := f1.tr f2
  refine zj170 (i := 0) (zj171 (n := 4) (by decide) ?_)
  have ela : zDpa (zDce w2 0) 4 = zDla w := by rw [zc_fr f12.1]; rfl
  rw [ela]
  refine ⟨by omega, h2.so, ?_⟩
  have es : (6 : Int) + (zDla w : Int) = zsc (4 + zDla w) := by unfold zsc; rw [if_pos (by omega)]; omega
  rw [es]
  have c4 := @zstr20 (4 + zDla w) (by omega)
  have c8 : (zstrs.getD 8 []).length = 4 := rfl
  have c9 : (zstrs.getD 9 []).length = 7 := rfl
  have c10 : (zstrs.getD 10 []).length = 7 := rfl
  refine zj184 h2 (zTxt_c (by omega)) (by omega) ?_
  intro w3 H3 h3 f3
  refine ⟨h3.so, zj184 (s := zsc 9) h3 (zTxt_c (by decide)) (by rw [List.length_append]; omega) ?_⟩
  intro w4 H4 h4 f4
  have f34 := (f12.tr f3).tr f4
  refine zj170 (i := 0) (zj171 (n := 4000) (by decide) ⟨h4.so, ?_⟩)
  have ebo : w32 (50 + (zDpa (zshr (zDce w4 0) 3) 4000 : Int)) = (zDbo w : Int) := by
    have := (@zDpa_e (zshr (zDce w 0) 3) 4000 (by decide)).2
    rw [zc_fr f34.1, w32_id (by omega)]
    unfold zDbo
    omega
  rw [ebo]
  have l1 := @zdec_l4 (zDbo w) (zDbo_t w)
  have l2 := @zdec_l4 (zDst w) (zDst_t w)
  refine zj194 h4 (zDbo_t w) (by simp only [List.length_append]; omega) ?_
  intro w5 H5 h5 f5
  refine ⟨h5.so, zj184 (s := zsc 10) h5 (zTxt_c (by decide)) (by simp only [List.length_append]; omega) ?_⟩
  intro w6 H6 h6 f6
  have f56 := (f34.tr f5).tr f6
  refine zj170 (i := 1) (zj171 (n := 12) (by decide) ⟨h6.so, ?_⟩)
  have est : w32 (1 + (zDpa (zDce w6 1) 12 : Int)) = (zDst w : Int) := by
    have := (@zDpa_e (zDce w 1) 12 (by decide)).2
    rw [zc_fr f56.1, w32_id (by omega)]
    unfold zDst
    omega
  rw [est]
  refine zj194 h6 (zDst_t w) (by simp only [List.length_append]; omega) ?_
  intro w7 H7 h7 f7
  refine ⟨h7.so, zj198 h7 (by omega) (by simp only [List.length_append]; omega) ?_⟩
  intro w8 H8 h8 f8
  have f78 := (f56.tr f7).tr f8
  refine ⟨h8.so.g0, ?_⟩
  refine zj180b w (zDro w) 0 w8 H8 (by omega) f78.1 ?_ ?_
  · show zSB w8 H8 o (zDhd w ++ [])
    rw [List.append_nil]
    exact h8
  · intro s w' H' ht hf
    exact hK s w' H' ht ((f78.tr hf).le (by omega))
end ZJ
