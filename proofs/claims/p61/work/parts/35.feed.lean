/-! the law's feed: four bytes to a word, five words to a feed -/
theorem zofn {n : Nat} (h : n < 4294967296) : (Int32.ofInt (n : Int)).toBitVec.toNat = n := by
  show (BitVec.ofInt 32 (n : Int)).toNat = n
  rw [BitVec.toNat_ofInt]
  omega
theorem ztoI {x : Int32} {n : Nat} (h : x.toBitVec.toNat = n) (hn : n < 2147483648) : x.toInt = (n : Int) := by
  show x.toBitVec.toInt = _
  rw [BitVec.toInt_eq_toNat_of_lt (by rw [h]; omega), h]
theorem zshl8 {n : Nat} (h : n < 8388608) : zshl (n : Int) 8 = ((n * 256 : Nat) : Int) := by
  unfold zshl
  refine ztoI ?_ (by omega)
  rw [show (Int32.ofInt 8 &&& 31 : Int32) = 8 from rfl, Int32.toBitVec_shiftLeft, show (Int32.toBitVec 8).smod 32 = 8#32 from rfl]
  show ((Int32.ofInt (n : Int)).toBitVec <<< (8 : Nat)).toNat = _
  rw [BitVec.toNat_shiftLeft, zofn (by omega), Nat.shiftLeft_eq, show 2 ^ 8 = 256 from rfl]
  omega
theorem zor8 {n c : Nat} (h : n < 8388608) (hc : c < 256) : zor ((n * 256 : Nat) : Int) (c : Int) = ((n * 256 + c : Nat) : Int) := by
  unfold zor
  refine ztoI ?_ (by omega)
  rw [Int32.toBitVec_or, BitVec.toNat_or, zofn (by omega), zofn (by omega), Nat.mul_comm n 256]
  exact (Nat.two_pow_add_eq_or_of_lt (i := 8) hc n).symm
theorem zushr_n {n : Nat} (k : Nat) (h : n < 2147483648) (hk : k = 24 ∨ k = 16 ∨ k = 8 ∨ k = 0) : zushr (n : Int) (k : Int) = ((n / 2 ^ k : Nat) : Int) := by
  have hle : n / 2 ^ k ≤ n := Nat.div_le_self _ _
  unfold zushr
  refine ztoI ?_ (by omega)
  show ((Int32.ofInt (n : Int)).toUInt32 >>> ((Int32.ofInt (k : Int)).toUInt32 &&& Int32.toUInt32 31)).toNat = _
  rw [UInt32.toNat_shiftRight]
  have e1 : (Int32.ofInt (n : Int)).toUInt32.toNat = n := zofn (by omega)
  rw [e1, Nat.shiftRight_eq_div_pow]
  rcases hk with rfl | rfl | rfl | rfl <;> rfl
theorem zand_n {n : Nat} (h : n < 2147483648) : zand (n : Int) 255 = ((n % 256 : Nat) : Int) := by
  unfold zand
  refine ztoI ?_ (by omega)
  rw [Int32.toBitVec_and, BitVec.toNat_and, zofn (by omega)]
  show n &&& 255 = n % 256
  exact Nat.and_two_pow_sub_one_eq_mod n 8
/-- m bytes of f packed -/
def zpf (f : Nat → Int) : Nat → Int
  | 0 => 0
  | m + 1 => zor (zshl (zpf f m) 8) (f m)
theorem zpf_4 {f : Nat → Int} (h : ∀ j, 0 ≤ f j ∧ f j < 128) : zfb (zpf f 4) = [f 0, f 1, f 2, f 3] ∧ r32 (zpf f 4) := by
  obtain ⟨a, ha⟩ : ∃ a : Nat, f 0 = a := ⟨(f 0).toNat, by have := h 0; omega⟩
  obtain ⟨b, hb⟩ : ∃ a : Nat, f 1 = a := ⟨(f 1).toNat, by have := h 1; omega⟩
  obtain ⟨c, hc⟩ : ∃ a : Nat, f 2 = a := ⟨(f 2).toNat, by have := h 2; omega⟩
  obtain ⟨e, he⟩ : ∃ a : Nat, f 3 = a := ⟨(f 3).toNat, by have := h 3; omega⟩
  have h0 := h 0
  have h1 := h 1
  have h2 := h 2
  have h3 := h 3
  have e4 : zpf f 4 = ((((a * 256 + b) * 256 + c) * 256 + e : Nat) : Int) := by
    show zor (zshl (zor (zshl (zor (zshl (zor (zshl (((0 : Nat) : Int)) 8) (f 0)) 8) (f 1)) 8) (f 2)) 8) (f 3) = _
    rw [ha, hb, hc, he, zshl8 (by omega), zor8 (by omega) (by omega), show 0 * 256 + a = a by omega, zshl8 (by omega), zor8 (by omega) (by omega), zshl8 (by omega), zor8 (by omega) (by omega), zshl8 (by omega), zor8 (by omega) (by omega)]
  refine ⟨?_, by rw [e4]; exact ⟨by omega, by omega⟩⟩
  rw [e4]
  unfold zfb
  have hv : ((a * 256 + b) * 256 + c) * 256 + e < 2147483648 := by omega
  rw [zushr_n 24 hv (by omega), zushr_n 16 hv (by omega), zushr_n 8 hv (by omega), zushr_n 0 hv (by omega)]
  rw [show 2 ^ 24 = 16777216 from rfl, show 2 ^ 16 = 65536 from rfl, show 2 ^ 8 = 256 from rfl, show 2 ^ 0 = 1 from rfl]
  rw [zand_n (by omega), zand_n (by omega), zand_n (by omega), zand_n (by omega)]
  rw [ha, hb, hc, he]
  rw [show (((a * 256 + b) * 256 + c) * 256 + e) / 16777216 % 256 = a by omega, show (((a * 256 + b) * 256 + c) * 256 + e) / 65536 % 256 = b by omega, show (((a * 256 + b) * 256 + c) * 256 + e) / 256 % 256 = c by omega, show (((a * 256 + b) * 256 + c) * 256 + e) / 1 % 256 = e by omega]
/-- the text with blanks behind it -/
def zch (u : List Int) (j : Nat) : Int := if j < u.length then u.getD j 0 else 32
theorem zch_r {u : List Int} (h : ∀ x ∈ u, 0 ≤ x ∧ x < 128) (j : Nat) : 0 ≤ zch u j ∧ zch u j < 128 := by
  unfold zch
  split
  · rename_i q; exact zgetD_r h q
  · omega
def zGw (k : Nat) (w w' : zWt) : Prop := zwx w w' ∧ w'.2.2.length ≤ w.2.2.length + k ∧ (w'.2.2.map Prod.snd).sum ≤ (w.2.2.map Prod.snd).sum + 1000 * k
theorem zGw_rfl {k : Nat} {w : zWt} : zGw k w w := ⟨zwx_rfl, by omega, by omega⟩
theorem zGw.tr {k m : Nat} {w w1 w2 : zWt} (h : zGw k w w1) (g : zGw m w1 w2) : zGw (k + m) w w2 :=
  ⟨zwx_tr h.1 g.1, by have := h.2.1; have := g.2.1; omega, by have := h.2.2; have := g.2.2; omega⟩
theorem zGw.le {k m : Nat} {w w1 : zWt} (h : zGw k w w1) (q : k ≤ m) : zGw m w w1 := ⟨h.1, by have := h.2.1; omega, by have := h.2.2; omega⟩
theorem zGw_p {w : zWt} {k n : Nat} (hn : n ≤ 1000) : zGw 1 w (zwp w k n) := ⟨zwx_p, by unfold zwp; simp, by unfold zwp; simp; omega⟩
theorem zFr.gw {k : Nat} {w w1 : zWt} {H H1 : zHt} (h : zFr k w H w1 H1) : zGw k w w1 := ⟨h.1, h.2.1, h.2.2.1⟩
theorem zTxt.mv {w w' : zWt} {H H' : zHt} {s : Int} {u : List Int} (h : zTxt w H s u) (hx : zwx w w') (ho : ∀ a, 81 ≤ a → a < zNc w → H' a = H a) : zTxt w' H' s u := by
  have eT : zTv H' s = zTv H s ∧ zTc H' s = zTc H s ∧ zIsT w' s := by
    rcases h.tt with q | q | q
    · exact ⟨by unfold zTv; rw [if_pos q.2, if_pos q.2], by unfold zTc; rw [if_pos (by omega), if_pos (by omega)], Or.inl q⟩
    · exact ⟨by unfold zTv; rw [if_neg (by omega), if_pos q.2, if_neg (by omega), if_pos q.2], by unfold zTc; rw [if_pos (by omega), if_pos (by omega)], Or.inr (Or.inl q)⟩
    · have e := ho s q.1 q.lt
      exact ⟨by unfold zTv; rw [e], by unfold zTc; rw [e], Or.inr (Or.inr (q.wx hx))⟩
  have hs := zwx_s hx
  have h1 : w'.1 = w.1 := by obtain ⟨E, rfl⟩ := hx; rfl
  have ez : zIsB w' (zTv H s) ∧ zsz w' (zTv H s) = zsz w (zTv H s) ∧ ∀ j, zM w' H' (zTv H s) j = zM w H (zTv H s) j := by
    rcases h.tb with q | q
    · have q' := q.wx hx
      refine ⟨Or.inl q'.sl, q'.ln, fun j => ?_⟩
      rw [zM81 q.1, zM81 q.1, ho _ q.1 q.lt]
    · have e2 : zsh (zS w' (fun _ _ => 0)) (zTv H s) = zsh (zS w (fun _ _ => 0)) (zTv H s) := by
        unfold zsh
        by_cases z : zTv H s < 0
        · rw [if_pos z, if_pos z]
        · rw [if_neg z, if_neg z, if_pos q.1.2, if_pos q.1.2]
          show zF w'.1 _ = zF w.1 _
          rw [h1]
      have e3 : zsz w' (zTv H s) = zsz w (zTv H s) := by unfold zsz; rw [e2]
      refine ⟨Or.inr ⟨q.1, by rw [e2, e3]; exact q.2⟩, e3, fun j => ?_⟩
      unfold zM
      rw [if_pos q.1.2, if_pos q.1.2, hs]
  refine ⟨eT.2.2, by rw [eT.1]; exact ez.1, by rw [eT.1, ez.2.1]; exact h.tz, by rw [eT.2.1]; exact h.tc, fun k hk => ?_, h.tr, h.tl⟩
  rw [eT.1, ez.2.2]
  exact h.tx k hk
theorem zqt4 {i : Nat} (h : i ≤ 20) : w32 (Int.tdiv (i : Int) 4) = ((i / 4 : Nat) : Int) := by
  rw [show Int.tdiv (i : Int) 4 = ((i / 4 : Nat) : Int) from rfl, w32_id (by omega)]
theorem zqni {n i : Nat} (h : n + i ≤ 1000) : w32 ((n : Int) + (i : Int)) = ((n + i : Nat) : Int) := by rw [w32_id (by omega)]; omega
theorem zqi1 {i : Nat} (h : i ≤ 1000) : w32 ((i : Int) + 1) = ((i + 1 : Nat) : Int) := by rw [w32_id (by omega)]; omega
/-- the tape holds the text's first n, all else is as it was -/
def zFd (w0 : zWt) (H0 : zHt) (u : List Int) (n : Nat) (w : zWt) (H : zHt) : Prop := (∀ a, 81 ≤ a → a < zNc w0 → H a = H0 a) ∧ H 33 8 = n ∧ (∀ j : Nat, j < n → H 34 j = zch u j) ∧ (∀ a j, a < 81 → a ≠ 34 → ¬ (a = 33 ∧ j = 8) → H a j = H0 a j)
section ZJ
variable {w0 : zWt} {H0 : zHt} {d : Nat} {s : Int} {u : List Int}
theorem zj178c {K : zWt → zHt → Prop} {n : Nat} {o : Int} (hu : zTxt w0 H0 s u) (ho : zNc w0 ≤ o) : ∀ (m i : Nat) (w : zWt) (H : zHt), i + m = 20 → n ≤ 300 → zwx w0 w → zSh w o 100 5 → zFd w0 H0 u n w H → (∀ q : Nat, q < 5 → H o q = zpf (fun j => zch u (n + 4 * q + j)) (min (i - 4 * q) 4)) → (∀ H', zFd w0 H0 u (n + 20) w H' → zga w (d + 4) 178 2 [zR 32, zR s, zI ((n + 20 : Nat) : Int), zJ, zJ] [] H' (zQaV K)) → zga w (d + 4) 178 17 [zR 32, zR s, zI (n : Int), zR o, zI (i : Int)] [] H (zQaV K) := by
  intro m
  induction m with
  | zero =>
    intro i w H hi hn hx hs hF hq hK
    have e := hs.ln
    have hi' : i = 20 := by omega
    subst hi'
    have hB : ∀ q : Nat, q < 5 → H o q = zpf (fun j => zch u (n + 4 * q + j)) 4 := fun q h => by
      rw [hq q h]; congr 1; omega
    have hb4 : ∀ q : Nat, q < 5 → zfb (H o q) = [zch u (n + 4 * q + 0), zch u (n + 4 * q + 1), zch u (n + 4 * q + 2), zch u (n + 4 * q + 3)] := fun q h => by
      rw [hB q h]; exact (zpf_4 (fun j => zch_r hu.tr _)).1
    refine xa178_17 ⟨fun _ => ⟨hs.g0, hs.sl, by rw [e]; decide, by rw [e]; decide, by rw [e]; decide, by rw [e]; decide, by rw [e]; decide, ?_⟩, fun q => by omega⟩
    have h8 : H 33 8 = (n : Int) := hF.2.1
    obtain ⟨H1, g1, e1⟩ := c11 (w := w) (d := d + 2) (x := H o 0) (zfd_st (A := 34) (f := id) h8) (by show n + 0 + 4 ≤ 400; omega)
    obtain ⟨H2, g2, e2⟩ := c11 (w := w) (d := d + 2) (x := H o 1) g1 (by show n + 4 + 4 ≤ 400; omega)
    obtain ⟨H3, g3, e3⟩ := c11 (w := w) (d := d + 2) (x := H o 2) g2 (by show n + 8 + 4 ≤ 400; omega)
    obtain ⟨H4, g4, e4⟩ := c11 (w := w) (d := d + 2) (x := H o 3) g3 (by show n + 12 + 4 ≤ 400; omega)
    obtain ⟨H5, g5, e5⟩ := c11 (w := w) (d := d + 2) (x := H o 4) g4 (by show n + 16 + 4 ≤ 400; omega)
    refine x10_0 ⟨fun _ => ?_, fun q => by rw [h8, w32_id (by omega)] at q; omega⟩
    rw [e1, e2, e3, e4, e5]
    rw [w32_id (by omega), show (n : Int) + 20 = ((n + 20 : Nat) : Int) by omega]
    have b0 := hb4 0 (by decide)
    have b1 := hb4 1 (by decide)
    have b2 := hb4 2 (by decide)
    have b3 := hb4 3 (by decide)
    have b4 := hb4 4 (by decide)
    rw [show H o ((0 : Nat) : Int) = H o 0 from rfl] at b0
    rw [show H o ((1 : Nat) : Int) = H o 1 from rfl] at b1
    rw [show H o ((2 : Nat) : Int) = H o 2 from rfl] at b2
    rw [show H o ((3 : Nat) : Int) = H o 3 from rfl] at b3
    rw [show H o ((4 : Nat) : Int) = H o 4 from rfl] at b4
    rw [b0, b1, b2, b3, b4] at g5
    obtain ⟨p1, p2, p3, p4⟩ := g5
    refine hK H5 ⟨fun a a1 a2 => ?_, ?_, fun j hj => ?_, fun a j a1 a2 a3 => ?_⟩
    · rw [← hF.1 a a1 a2]; exact funext fun j => p4 a j (by omega) (by omega)
    · rw [p1]; rfl
    · by_cases z : j < n
      · rw [p2 j z]; exact hF.2.2.1 j z
      · have p := p3 (j - n) (by show j - n < 20; omega)
        rw [show n + (j - n) = j by omega] at p
        rw [p]
        obtain ⟨m, rfl⟩ : ∃ m, j = n + m := ⟨j - n, by omega⟩
        rw [show n + m - n = m by omega]
        have hm : m < 20 := by omega
        match m, hm with
        | 0, _ => rfl
        | 1, _ => rfl
        | 2, _ => rfl
        | 3, _ => rfl
        | 4, _ => rfl
        | 5, _ => rfl
        | 6, _ => rfl
        | 7, _ => rfl
        | 8, _ => rfl
        | 9, _ => rfl
        | 10, _ => rfl
        | 11, _ => rfl
        | 12, _ => rfl
        | 13, _ => rfl
        | 14, _ => rfl
        | 15, _ => rfl
        | 16, _ => rfl
        | 17, _ => rfl
        | 18, _ => rfl
        | 19, _ => rfl
        | x + 20, h => omega
    · rw [p4 a j a2 a3]; exact hF.2.2.2 a j a1 a2 a3
  | succ m ih =>
    intro i w H hi hn hx hs hF hq hK
    have e := hs.ln
    have hu' := hu.mv hx hF.1
    have ul := hu.tl
    have n81 := @zNc81 w0
    have go : ∀ c H', c = zch u (n + i) → H' = zup H o ((i / 4 : Nat) : Int) (zor (zshl (H o ((i / 4 : Nat) : Int)) 8) c) → zga w (d + 4) 178 17 [zR 32, zR s, zI (n : Int), zR o, zI ((i + 1 : Nat) : Int)] [] H' (zQaV K) := by
      intro c H' hc hH
      refine ih (i + 1) w H' (by omega) hn hx hs ⟨fun a a1 a2 => ?_, ?_, fun j hj => ?_, fun a j a1 a2 a3 => ?_⟩ (fun q hq5 => ?_) hK
      · rw [hH, zup_o (by omega)]; exact hF.1 a a1 a2
      · rw [hH, zup_o (by omega)]; exact hF.2.1
      · rw [hH, zup_o (by omega)]; exact hF.2.2.1 j hj
      · rw [hH, zup_o (by omega)]; exact hF.2.2.2 a j a1 a2 a3
      · by_cases z : q = i / 4
        · subst z
          rw [hH, zup_at, hq _ (by omega), hc]
          rw [show min (i - 4 * (i / 4)) 4 = i % 4 by omega, show min (i + 1 - 4 * (i / 4)) 4 = i % 4 + 1 by omega]
          show _ = zor (zshl (zpf _ (i % 4)) 8) (zch u (n + 4 * (i / 4) + i % 4))
          rw [show n + 4 * (i / 4) + i % 4 = n + i by omega]
        · rw [hH, zup_ne (by omega), hq q hq5]
          congr 1
          omega
    refine xa178_17 ⟨fun q => by omega, fun _ => ?_⟩
    rw [zqt4 (by omega), zqni (by omega), zqi1 (by omega)]
    refine ⟨hs.g0, hs.sl, by rw [e]; omega, hu'.tt.ge, hu'.tt, zj23 hu' ⟨fun q => ⟨hs.sl, by rw [e]; omega, fun H' hH => go _ _ ?_ hH⟩, fun q => ⟨hu'.tt.ge, hu'.tt, ?_⟩⟩⟩
    · unfold zch; rw [if_neg (by omega)]
    · refine zj25 hu' (by omega) ⟨hs.sl, by rw [e]; omega, fun H' hH => ?_⟩
      rw [(zbyte (zgetD_r hu.tr (by omega))).1] at hH
      refine go _ _ ?_ hH
      unfold zch; rw [if_pos (by omega)]
theorem zj178 {K : zWt → zHt → Prop} (hu : zTxt w0 H0 s u) (hl : u.length ≤ 300) : ∀ (m n : Nat) (w : zWt) (H : zHt), u.length ≤ n + 20 * m → n + 20 * m ≤ 320 → zGw (20 - m) w0 w → m ≤ 20 → zFd w0 H0 u n w H → (∀ n' w' H', u.length ≤ n' → zGw 20 w0 w' → zFd w0 H0 u n' w' H' → K w' H') → zga w (d + 4) 178 2 [zR 32, zR s, zI (n : Int), zJ, zJ] [] H (zQaV K) := by
  intro m
  induction m with
  | zero =>
    intro n w H h1 h2 hg hm hF hK
    have hu' := hu.mv hg.1 hF.1
    exact xa178_2 ⟨hu'.tt.ge, hu'.tt, zj23 hu' ⟨fun _ => hK n w H (by omega) hg hF, fun q => by omega⟩⟩
  | succ m ih =>
    intro n w H h1 h2 hg hm hF hK
    have hu' := hu.mv hg.1 hF.1
    have n81 := @zNc81 w
    refine xa178_2 ⟨hu'.tt.ge, hu'.tt, zj23 hu' ⟨fun _ => hK n w H (by omega) (hg.le (by omega)) hF, fun q => ⟨by decide, ?_⟩⟩⟩
    intro o ho w1 hw1 H1 e1
    have hn : zSh w1 o 100 5 := by rw [hw1, ho]; exact zSh_new
    have hg1 : zGw (20 - m) w0 w1 := by
      rw [hw1]
      exact (hg.tr (zGw_p (by decide))).le (by omega)
    have hno : zNc w0 ≤ o := by rw [ho]; exact zwx_nx hg.1
    have hF1 : zFd w0 H0 u n w1 H1 := by
      have n0 := @zNc81 w0
      refine ⟨fun a a1 a2 => ?_, ?_, fun j hj => ?_, fun a j a1 a2 a3 => ?_⟩
      · rw [e1, znew_o (by omega)]; exact hF.1 a a1 a2
      · rw [e1, znew_o (by omega)]; exact hF.2.1
      · rw [e1, znew_o (by omega)]; exact hF.2.2.1 j hj
      · rw [e1, znew_o (by omega)]; exact hF.2.2.2 a j a1 a2 a3
    refine ⟨hn.g0, zj178c hu hno (n := n) 20 0 w1 H1 (by omega) (by omega) hg1.1 hn hF1 (fun q _ => ?_) (fun H' hF' => ?_)⟩
    · rw [e1, ho, znew_at]
      show (0 : Int) = zpf _ (min (0 - 4 * q) 4)
      rw [show min (0 - 4 * q) 4 = 0 by omega]; rfl
    · exact ih (n + 20) w1 H' (by omega) (by omega) hg1 (by omega) hF' hK
end ZJ
