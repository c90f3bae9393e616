/-! numbers into a builder; a builder begun; its text taken -/
def zdec2 (n : Nat) : List Int := if n < 10 then [48 + (n : Int)] else [48 + ((n / 10 : Nat) : Int), 48 + ((n % 10 : Nat) : Int)]
def zdec (n : Nat) : List Int := if n < 100 then zdec2 n else zdec2 (n / 100) ++ [48 + ((n % 100 / 10 : Nat) : Int), 48 + ((n % 100 % 10 : Nat) : Int)]
theorem zdec_len {n : Nat} (h : n < 10000) : (zdec n).length = if n < 10 then 1 else if n < 100 then 2 else if n < 1000 then 3 else 4 := by
  unfold zdec zdec2
  by_cases h1 : n < 10
  · rw [if_pos (by omega), if_pos h1, if_pos h1]; rfl
  simp only [if_neg h1]
  by_cases h2 : n < 100
  · simp only [if_pos h2]; rfl
  simp only [if_neg h2]
  by_cases h3 : n < 1000
  · rw [if_pos h3, if_pos (by omega)]; rfl
  rw [if_neg h3, if_neg (by omega)]; rfl
theorem zdec2_r {n : Nat} (h : n < 100) : ∀ x ∈ zdec2 n, 0 ≤ x ∧ x < 128 := by
  intro x hx
  unfold zdec2 at hx
  split at hx
  · rw [List.mem_singleton.mp hx]; omega
  · simp only [List.mem_cons, List.not_mem_nil, or_false] at hx
    rcases hx with rfl | rfl <;> omega
theorem zdec_r {n : Nat} (h : n < 10000) : ∀ x ∈ zdec n, 0 ≤ x ∧ x < 128 := by
  intro x hx
  unfold zdec at hx
  split at hx
  · exact zdec2_r (by omega) x hx
  · rcases List.mem_append.mp hx with hx | hx
    · exact zdec2_r (by omega) x hx
    · simp only [List.mem_cons, List.not_mem_nil, or_false] at hx
      rcases hx with rfl | rfl <;> omega
section ZJ
variable {w : zWt} {d : Nat} {H : zHt} {o s : Int} {u t : List Int}
theorem zj196 {K : Int → zWt → zHt → Prop} {n : Nat} (hn : n < 10000) (k : K ((zdec n).length : Int) w H) : zcaI w d 196 [zI (n : Int)] H K := by
  rw [zdec_len hn] at k
  refine xa196_0 ⟨fun q => by omega, fun _ => ?_⟩
  rw [w32_id (by omega)]
  refine xa196_16 ⟨fun q => absurd q (by decide), fun _ => ⟨fun q1 => ?_, fun q1 => ?_⟩⟩
  · rw [show w32 (10 * (-10)) = -100 from rfl, show w32 (1 + 1) = 2 from rfl]
    refine xa196_16 ⟨fun q => absurd q (by decide), fun _ => ⟨fun q2 => ?_, fun q2 => ?_⟩⟩
    · rw [show w32 (10 * (-100)) = -1000 from rfl, show w32 (2 + 1) = 3 from rfl]
      refine xa196_16 ⟨fun q => absurd q (by decide), fun _ => ⟨fun q3 => ?_, fun q3 => ?_⟩⟩
      · rw [show w32 (10 * (-1000)) = -10000 from rfl, show w32 (3 + 1) = 4 from rfl]
        refine xa196_16 ⟨fun q => absurd q (by decide), fun _ => ⟨fun q4 => by omega, fun q4 => ?_⟩⟩
        rw [if_neg (by omega), if_neg (by omega), if_neg (by omega)] at k
        exact k
      · rw [if_neg (by omega), if_neg (by omega), if_pos (by omega)] at k
        exact k
    · rw [if_neg (by omega), if_pos (by omega)] at k
      exact k
  · rw [if_pos (by omega)] at k
    exact k
/-- b holds t from i on; else it is as in H -/
def zPut (H : zHt) (b i : Int) (t : List Int) (H' : zHt) : Prop := (∀ a, a ≠ b → H' a = H a) ∧ (∀ j, ¬ (i ≤ j ∧ j < i + t.length) → H' b j = H b j) ∧ (∀ j : Nat, j < t.length → H' b (i + j) = t.getD j 0)
theorem zPut_1 {b i x : Int} : zPut H b i [x] (zup H b i x) := by
  refine ⟨fun a ha => zup_o ha, fun j hj => zup_ne fun q => hj ⟨by omega, by show j < i + ((1 : Nat) : Int); omega⟩, fun j hj => ?_⟩
  have : j = 0 := by have : j < 1 := hj; omega
  subst this
  rw [show i + ((0 : Nat) : Int) = i by omega, zup_at]; rfl
theorem zPut_2 {b i x y : Int} : zPut H b i [x, y] (zup (zup H b (i + 1) y) b i x) := by
  refine ⟨fun a ha => by rw [zup_o ha, zup_o ha], fun j hj => ?_, fun j hj => ?_⟩
  · have hj' : ¬ (i ≤ j ∧ j < i + ((2 : Nat) : Int)) := hj
    rw [zup_ne (fun q => hj' ⟨by omega, by omega⟩), zup_ne (fun q => hj' ⟨by omega, by omega⟩)]
  · have : j = 0 ∨ j = 1 := by have : j < 2 := hj; omega
    rcases this with rfl | rfl
    · rw [show i + ((0 : Nat) : Int) = i by omega, zup_at]; rfl
    · rw [zup_ne (by omega), show i + ((1 : Nat) : Int) = i + 1 by omega, zup_at]; rfl
theorem zPut_app {b i : Int} {H1 H2 : zHt} (h : zPut H b (i + u.length) t H1) (g : zPut H1 b i u H2) : zPut H b i (u ++ t) H2 := by
  have hl' : (u ++ t).length = u.length + t.length := List.length_append
  refine ⟨fun a ha => (g.1 a ha).trans (h.1 a ha), fun j hj => ?_, fun j hj => ?_⟩
  · rw [g.2.1 j (by omega), h.2.1 j (by omega)]
  · by_cases q : j < u.length
    · rw [g.2.2 j q, zgetD_l q]
    · rw [g.2.1 _ (by omega), zgetD_a (by omega)]
      have := h.2.2 (j - u.length) (by omega)
      rwa [show i + (u.length : Int) + ((j - u.length : Nat) : Int) = i + (j : Int) by omega] at this
theorem zj197b {K : Int → zWt → zHt → Prop} {b i : Int} {N n : Nat} (hb : zSh w b 102 N) (hn : n < 100) (hi : 0 ≤ i ∧ i + (zdec2 n).length ≤ N ∧ N ≤ 1000) (k : ∀ H' x, zPut H b i (zdec2 n) H' → K x w H') : zga w d 197 22 [zI (-(n : Int)), zJ, zR b, zJ, zJ, zI (i + (zdec2 n).length), zI 0] [] H (zQaI K) := by
  have e := hb.ln
  refine xa197_22 ⟨fun _ => ?_, fun q => by omega⟩
  by_cases h1 : n < 10
  · have el : zdec2 n = [48 + (n : Int)] := if_pos h1
    rw [el] at hi k ⊢
    have hi2 : i + ((1 : Nat) : Int) ≤ N := hi.2.1
    show _ ∧ _
    rw [show i + (([48 + (n : Int)] : List Int).length : Int) = i + 1 from rfl, w32_id (x := - -(n : Int)) (by omega), show - -(n : Int) = n by omega, show i + 1 + (-1) = i by omega, w32_id (x := i) (by omega)]
    refine ⟨hb.g0, ⟨by omega, by omega⟩, hb.sl, by rw [e]; omega, ?_⟩
    intro H6 h6
    refine ⟨fun _ => ⟨fun _ => k _ _ ?_, fun q => absurd rfl q⟩, fun q => by omega⟩
    rw [h6, show (48 + (n : Int) % 10) = 48 + (n : Int) by omega, (zbyte ⟨by omega, by omega⟩).2.1]
    exact zPut_1
  · have el : zdec2 n = [48 + ((n / 10 : Nat) : Int), 48 + ((n % 10 : Nat) : Int)] := if_neg h1
    rw [el] at hi k ⊢
    have hi2 : i + ((2 : Nat) : Int) ≤ N := hi.2.1
    show _ ∧ _
    rw [show i + (([48 + ((n / 10 : Nat) : Int), 48 + ((n % 10 : Nat) : Int)] : List Int).length : Int) = i + 2 from rfl, w32_id (x := - -(n : Int)) (by omega), show - -(n : Int) = n by omega, show i + 2 + (-1) = i + 1 by omega, w32_id (x := i + 1) (by omega), show i + 1 + (-1) = i by omega, w32_id (x := i) (by omega)]
    refine ⟨hb.g0, ⟨by omega, by omega⟩, hb.sl, by rw [e]; omega, ?_⟩
    intro H6 h6
    refine ⟨fun q => by omega, fun _ => ⟨by rw [e]; omega, ?_⟩⟩
    intro H14 h14
    refine ⟨fun _ => k _ _ ?_, fun q => absurd rfl q⟩
    rw [h14, h6, (zbyte (x := 48 + (n : Int) % 10) ⟨by omega, by omega⟩).2.1, (zbyte (x := 48 + (n : Int) / 10) ⟨by omega, by omega⟩).2.1, show 48 + (n : Int) % 10 = 48 + ((n % 10 : Nat) : Int) by omega, show 48 + (n : Int) / 10 = 48 + ((n / 10 : Nat) : Int) by omega]
    exact zPut_2
theorem zj197 {K : Int → zWt → zHt → Prop} {b i : Int} {N n : Nat} (hb : zSh w b 102 N) (hn : n < 10000) (hi : 0 ≤ i ∧ i + (zdec n).length ≤ N ∧ N ≤ 1000) (k : ∀ H' x, zPut H b i (zdec n) H' → K x w H') : zcaI w d 197 [zI (n : Int), zI (i + (zdec n).length), zR b] H K := by
  have e := hb.ln
  refine xa197_0 ⟨fun _ => ?_, fun q => by omega⟩
  rw [w32_id (by omega)]
  by_cases h1 : n < 100
  · have el : zdec n = zdec2 n := if_pos h1
    rw [el] at hi k ⊢
    exact zj197b hb h1 hi k
  have el : zdec n = zdec2 (n / 100) ++ [48 + ((n % 100 / 10 : Nat) : Int), 48 + ((n % 100 % 10 : Nat) : Int)] := if_neg h1
  rw [el] at hi k ⊢
  rw [List.length_append] at hi ⊢
  generalize hL : (zdec2 (n / 100)).length = l at hi ⊢
  have hi2 : i + ((l + 2 : Nat) : Int) ≤ N := hi.2.1
  show zga w d 197 22 [zI (-(n : Int)), zJ, zR b, zJ, zJ, zI (i + ((l + 2 : Nat) : Int)), zI 0] [] H (zQaI K)
  have et : w32 (Int.tdiv (-(n : Int)) 100) = -((n / 100 : Nat) : Int) := by
    rw [Int.neg_tdiv, show Int.tdiv (n : Int) 100 = ((n / 100 : Nat) : Int) from rfl, w32_id (by omega)]
  refine xa197_22 ⟨fun q => by omega, fun _ => ?_⟩
  rw [et, w32_id (x := -((n / 100 : Nat) : Int) * 100) (by omega), w32_id (x := -((n / 100 : Nat) : Int) * 100 - -(n : Int)) (by omega), show -((n / 100 : Nat) : Int) * 100 - -(n : Int) = ((n % 100 : Nat) : Int) by omega, show i + ((l + 2 : Nat) : Int) + (-1) = i + l + 1 by omega, w32_id (x := i + l + 1) (by omega), show i + (l : Int) + 1 + (-1) = i + l by omega, w32_id (x := i + l) (by omega)]
  refine ⟨hb.g0, ⟨by omega, by omega⟩, hb.sl, by rw [e]; omega, ?_⟩
  intro H1 h1'
  refine ⟨by rw [e]; omega, ?_⟩
  intro H2 h2
  have hp : zPut H b (i + l) [48 + ((n % 100 / 10 : Nat) : Int), 48 + ((n % 100 % 10 : Nat) : Int)] H2 := by
    rw [h2, h1', (zbyte (x := 48 + ((n % 100 : Nat) : Int) % 10) ⟨by omega, by omega⟩).2.1, (zbyte (x := 48 + ((n % 100 : Nat) : Int) / 10) ⟨by omega, by omega⟩).2.1]
    exact zPut_2
  subst hL
  exact zj197b hb (by omega) ⟨hi.1, by omega, hi.2.2⟩ fun H' x hq => k H' x (zPut_app hp hq)
theorem zj194 {K : Int → zWt → zHt → Prop} {n : Nat} (h : zSB w H o u) (hn : n < 10000) (hl : u.length ≤ 290) (k : ∀ w' H', zSB w' H' o (u ++ zdec n) → zFr 1 w H w' H' → K o w' H') : zcaR w (d + 4) 194 [zR o, zI (n : Int)] H K := by
  have hdl : (zdec n).length ≤ 4 := by rw [zdec_len hn]; repeat (first | omega | split)
  refine xa194_0 ⟨h.so.g0, h.so, xa195_0 ⟨h.so.g0, h.so, zj196 hn ⟨h.so.g0, h.so, ?_⟩⟩⟩
  rw [h.ct, w32_id (by omega)]
  refine zj186 h (by omega) ?_
  intro w' H' h' hc hf
  have ca := h'.ca
  have ne : o ≠ H' o 0 := h'.so.ne h'.sv (by decide)
  have o81 := h'.so.1
  have v81 := h'.sv.1
  refine ⟨h'.so.g0, h'.so, zj190 h' ⟨fun q => absurd q (by decide), fun _ => ⟨h'.so.g0, h'.so, ?_⟩⟩⟩
  refine zj197 h'.sv hn ⟨by omega, by omega, ca⟩ ?_
  intro H1 x hp
  refine ⟨h'.so.g0, h'.so, ?_⟩
  intro H2 e2
  refine ⟨h.so.g0, k w' H2 (zSB_add (H1 := H') h' (zdec_r hn) (by omega) (fun a b c => ?_) (fun j hj => ?_) ?_ (fun j hj => ?_) (fun j hj => ?_)) (hf.tr (m := 0) (zFr_hp fun a ha => ?_))⟩
  · rw [e2, zup_o c, hp.1 a b]
  · rw [e2, zup_ne (fun q => hj q.2), hp.1 o ne]
  · rw [e2, zup_at, List.length_append]; omega
  · rw [e2, zup_o ne.symm]; exact hp.2.1 j hj
  · rw [e2, zup_o ne.symm]; exact hp.2.2 j hj
  · rw [e2, zup_o (by omega), hp.1 a (by omega)]
/-- the constants -/
def zsc (i : Nat) : Int := if i < 8 then 2 + (i : Int) else 10 + (i : Int)
theorem zsc_all : (List.range 12).all (fun i => decide ((zstrs.getD i []).length ≤ 20) && (zstrs.getD i []).all (fun x => decide (0 ≤ x ∧ x < 128))) = true := by decide +kernel
theorem zTxt_c {i : Nat} (hi : i < 12) (w : zWt) (H : zHt) : zTxt w H (zsc i) (zstrs.getD i []) := by
  have h1 := List.all_eq_true.mp zsc_all i (List.mem_range.mpr hi)
  simp only [Bool.and_eq_true, decide_eq_true_eq, List.all_eq_true] at h1
  have hT : zTv H (zsc i) = (zbc i : Int) ∧ zTc H (zsc i) = 0 ∧ zIsT w (zsc i) := by
    unfold zTv zTc zIsT zsc zbc
    by_cases h8 : i < 8
    · rw [if_pos h8, if_pos h8, if_pos (by omega), if_pos (by omega)]
      exact ⟨by omega, rfl, Or.inl ⟨by omega, by omega⟩⟩
    · rw [if_neg h8, if_neg h8, if_neg (by omega), if_pos (by omega), if_pos (by omega)]
      exact ⟨by omega, rfl, Or.inr (Or.inl ⟨by omega, by omega⟩)⟩
  have hb : 10 ≤ (zbc i : Int) ∧ (zbc i : Int) < 26 ∧ (zbc i < 18 ∨ 22 ≤ zbc i) := by unfold zbc; split <;> omega
  have hs : zsh (zS w (fun _ _ => 0)) (zbc i) = some (91, (zstrs.getD i []).length) := by
    unfold zsh
    rw [if_neg (by omega), if_pos (by omega)]
    unfold zF
    rw [if_neg (by omega), if_neg (by omega), if_neg (by omega)]
    by_cases q : (zbc i : Int) < 18
    · rw [if_pos q]
      have : ((zbc i : Int) - 10).toNat = i := by unfold zbc at q ⊢; split at q <;> split <;> omega
      rw [this]
    · rw [if_neg q, if_neg (by omega), if_pos (by omega)]
      have : ((zbc i : Int) - 14).toNat = i := by unfold zbc at q ⊢; split at q <;> split <;> omega
      rw [this]
  have hz : zsz w (zbc i) = (zstrs.getD i []).length := by unfold zsz; rw [hs]
  refine ⟨hT.2.2, ?_, by rw [hT.1, hz], hT.2.1, fun k hk => ?_, h1.2, by omega⟩
  · rw [hT.1]; exact Or.inr ⟨by omega, by rw [hz]; exact hs⟩
  · rw [hT.1]
    unfold zM
    rw [if_pos (by omega)]
    unfold zH0
    rw [if_neg (by omega), if_neg (by omega)]
    have hcb : zcn (zbc i) k = (zstrs.getD i []).getD k 0 := by rw [zcn_bc hi]; rfl
    split
    · rename_i q
      have : ((zbc i : Int) - 10).toNat = i := by unfold zbc at q ⊢; split at q <;> split <;> omega
      rw [this]; rfl
    · exact hcb
/-- a new builder with a text -/
theorem zj181 {K : zWt → zHt → Prop} (h : zSh w o 6 4) (h3 : H o 3 = 0) (ht : ∀ w H, zTxt w H s t) (hl : t.length ≤ 100) (k : ∀ w' H', zSB w' H' o t → zFr 2 w H w' H' → K w' H') : zcaV w (d + 7) 181 [zR o, zR s] H K := by
  refine xa181_0 ⟨h.g0, (ht w H).tt.ge, h, ?_⟩
  refine xa182_0 ⟨h.g0, (ht w H).tt.ge, (ht w H).tt, zj23 (ht w H) ⟨fun q => by omega, fun _ => ⟨(ht w H).tt.ge, (ht w H).tt, zj24 (ht w H) ⟨h.g0, h, rfl, ?_⟩⟩⟩⟩
  intro H1 e1
  rw [w32_id (by omega)]
  refine ⟨fun q => absurd rfl q, fun _ => ⟨by omega, ?_⟩⟩
  intro o2 ho2 w2 hw2 H2 e2
  have hx : zwx w w2 := by rw [hw2]; exact zwx_p
  have hn : zSh w2 o2 102 ((t.length : Int) + 16).toNat := by rw [hw2, ho2]; exact zSh_new
  refine ⟨h.wx hx, ?_⟩
  intro H3 e3
  have hol := h.lt
  have ne : o ≠ o2 := by omega
  have o81 := h.1
  have n81 := @zNc81 w
  have e0 : H3 o 0 = o2 := by rw [e3, zup_at]
  have ej : ∀ j, j ≠ 0 → j ≠ 1 → H3 o j = H o j := fun j a b => by rw [e3, zup_ne (fun q => a q.2), e2, znew_o (by omega), e1, zup_ne (fun q => b q.2)]
  have e1' : H3 o 1 = 0 := by rw [e3, zup_ne (fun q => absurd q.2 (by decide)), e2, znew_o (by omega), e1, zup_at]
  have en : H3 o2 = fun _ => 0 := by rw [e3, zup_o ne.symm, e2, ho2, znew_at]
  have hB : zSB w2 H3 o [] := by
    refine ⟨h.wx hx, by rw [e0]; exact hn.sl, e1', by rw [ej 3 (by decide) (by decide)]; exact h3, Nat.zero_le _, by rw [e0, hn.ln]; omega, fun j hj => absurd hj (Nat.not_lt_zero _), fun j _ => ?_⟩
    rw [e0, en]; rfl
  have hF : zFr 1 w H w2 H3 := by
    rw [hw2]
    refine zFr_nw (by omega) fun a ha => ?_
    rw [e3, zup_o (by omega), e2, znew_o (by omega), e1, zup_o (by omega)]
  refine ⟨(ht w H).tt.ge, ?_⟩
  refine xa183_0 ⟨h.g0, (ht w H).tt.ge, h.wx hx, zj184 hB ht (by show 0 + t.length ≤ 300; omega) fun w' H' a b => ⟨h.g0, ?_⟩⟩
  exact k w' H' a (hF.tr b)
theorem zj207 {K : Int → zWt → zHt → Prop} {v m : Int} {N : Nat} (hv : zSh w v 102 N) (hN : N ≤ 1000) (hm : 0 ≤ m ∧ m ≤ N) (h8 : ∀ j : Nat, j < N → zb8 (H v j) = true) (k : ∀ H' : zHt, (∀ a, a ≠ zNc w → H' a = H a) → (∀ j : Nat, (j : Int) < m → H' (zNc w) j = H v j) → K (zNc w) (zwp w 102 m.toNat) H') : zcaR w (d + 2) 207 [zR v, zI 0, zI m] H K := by
  have e := hv.ln
  have n81 := @zNc81 w
  refine xa207_0 ⟨fun q => absurd rfl q, fun _ => ⟨hv.g0, hv.sl, ?_⟩⟩
  rw [e]
  refine ⟨fun q => ⟨h8, ?_⟩, fun q => ?_⟩
  · intro o1 h1 w1 hw1 H1 e1
    have hw2 : w1 = zwp w 102 N := hw1
    have hn : zSh w1 o1 102 N := by rw [hw2, h1]; exact zSh_new
    refine ⟨hn.sl, hn.g0, ?_⟩
    rw [h1, hw2, show N = m.toNat by omega]
    refine k H1 (fun a ha => by rw [e1, znew_o ha]) (fun j hj => by rw [e1, znew_at])
  · refine xa208_0 (xa209_0 (l0 := 0) (l1 := m) ⟨fun _ => ?_, fun q => absurd hm.1 (by omega)⟩)
    rw [show m - 0 = m by omega, w32_id (by omega)]
    refine ⟨by omega, ?_⟩
    intro o5 ho w7 hw H9 hH
    have hw7 : w7 = zwp w 102 m.toNat := hw
    have hx : zwx w w7 := by rw [hw7]; exact zwx_p
    have hv' := hv.wx hx
    have e' := hv'.ln
    have hn : zSh w7 o5 102 m.toNat := by rw [hw7, ho]; exact zSh_new
    have hne : v ≠ zNc w := by have := hv.lt; omega
    have hM : ∀ x, zM w7 H9 v x = H v x := fun x => by rw [zM81 hv.1, hH, znew_o hne]
    refine ⟨hn.g0, hv.g0, hv'.sl, ?_⟩
    intro v13 hv13
    rw [e', show (N : Int) - 0 = N by omega, w32_id (x := (N : Int)) (by omega)] at hv13
    have hv14 : v13 = m := by rw [hv13]; split <;> omega
    refine ⟨Or.inl hv'.sl, hn.sl, ⟨Int.le_refl 0, Int.le_refl 0, by omega, by rw [e']; omega, by rw [hn.ln]; omega⟩, fun j hj => ?_, ?_⟩
    · rw [hM, Int.zero_add]; exact h8 j (by omega)
    intro H19 h19
    refine ⟨hn.g0, ?_⟩
    rw [ho, hw7]
    refine k H19 (fun a ha => ?_) (fun j hj => ?_)
    · rw [h19, zcpy_o (by rw [ho]; exact ha), hH, znew_o ha]
    · rw [h19, ho, zcpy_in ⟨by omega, by omega⟩, hM]; congr 1; omega
/-- a builder's text -/
theorem zj201 {K : Int → zWt → zHt → Prop} (h : zSB w H o u) (hr : ∀ x ∈ u, 0 ≤ x ∧ x < 128) (hl : u.length ≤ 300) (k : ∀ s w' H', zTxt w' H' s u → zFr 2 w H w' H' → K s w' H') : zcaR w (d + 5) 201 [zR o] H K := by
  refine xa201_0 ?_
  intro o1 ho w1 hw1 H1 e1
  have hx : zwx w w1 := by rw [hw1]; exact zwx_p
  have hn : zSh w1 o1 7 4 := by rw [hw1, ho]; exact zSh_new
  have hol := h.so.lt
  have hvl := h.sv.lt
  have o81 := h.so.1
  have v81 := h.sv.1
  have n81 := @zNc81 w
  have eo : H1 o = H o := by rw [e1, znew_o (by omega)]
  have ev : H1 (H o 0) = H (H o 0) := by rw [e1, znew_o (by omega)]
  have hB : zSB w1 H1 o u := by
    have hs := (h.sv.wx hx).ln
    have h8 := h.b8
    refine ⟨h.so.wx hx, ?_, by rw [eo]; exact h.co, by rw [eo]; exact h.ct, ?_, ?_, fun j hj => ?_, fun j hj => ?_⟩
    · rw [eo]; exact (h.sv.wx hx).sl
    · rw [eo, hs]; exact h.le
    · rw [eo, hs]; exact h.ca
    · rw [eo, ev]; exact h.by' j hj
    · rw [eo, hs] at hj; rw [eo, ev]; exact h8 j hj
  refine ⟨h.so.g0, hn, ?_⟩
  refine xa202_0 ⟨hn.g0, h.so.g0, hn, ?_⟩
  refine xa203_0 ⟨hn.g0, h.so.g0, hB.so, xa204_0 ⟨h.so.g0, hB.so, hB.sv.g0, ?_⟩⟩
  refine ⟨hB.sv.g0, h.so.g0, hB.so, xa205_0 ⟨h.so.g0, hB.so, xa206_0 ⟨h.so.g0, hB.so, ?_⟩⟩⟩
  refine ⟨h.so.g0, hB.so, zj190 hB ⟨fun q => absurd q (by decide), fun _ => ⟨hn.g0, hn, ?_⟩⟩⟩
  intro H2 e2
  rw [hB.ct]
  have ca := hB.ca
  have le := hB.le
  have ne : H1 o 0 ≠ o1 := fun q => by rw [eo] at q; omega
  have nl := hn.lt
  have vl := hB.sv.lt
  have e2v : H2 (H1 o 0) = H1 (H1 o 0) := by rw [e2, zup_o ne]
  refine ⟨hB.sv.g0, zj207 hB.sv ca ⟨by omega, by omega⟩ (fun j hj => by rw [e2v]; exact hB.b8 j hj) ?_⟩
  intro H3 a1 a2
  have hx2 : zwx w1 (zwp w1 102 ((u.length : Int)).toNat) := zwx_p
  refine ⟨hn.wx hx2, ?_⟩
  intro H4 e4
  have hn2 : zSh (zwp w1 102 ((u.length : Int)).toNat) (zNc w1) 102 ((u.length : Int)).toNat := zSh_new
  have e40 : H4 o1 0 = zNc w1 := by rw [e4, zup_at]
  have e41 : H4 o1 1 = 0 := by rw [e4, zup_ne (fun q => absurd q.2 (by decide)), a1 o1 (by omega), e2, zup_at]
  have e4v : H4 (zNc w1) = H3 (zNc w1) := by rw [e4, zup_o (by omega)]
  have n1 := @zNc81 w1
  refine ⟨hn.g0, k o1 _ H4 ?_ ?_⟩
  · have hT : zTv H4 o1 = zNc w1 := by unfold zTv; rw [if_neg (by omega), if_neg (by omega), e40]
    refine ⟨Or.inr (Or.inr (hn.wx hx2)), by rw [hT]; exact Or.inl hn2.sl, by rw [hT, hn2.ln]; omega, ?_, fun j hj => ?_, hr, by omega⟩
    · unfold zTc; rw [if_neg (by omega), e41]
    · rw [hT, zM81 n1, e4v, a2 j (by omega), e2v]; exact hB.by' j hj
  · have f1 : zFr 1 w H w1 H2 := by
      rw [hw1]
      refine zFr_nw (n := 4) (by decide) fun a ha => ?_
      rw [e2, zup_o (by omega), e1, znew_o (by omega)]
    refine f1.tr (m := 1) (zFr_nw (by omega) fun a ha => ?_)
    rw [e4, zup_o (by omega), a1 a (by omega)]
end ZJ
