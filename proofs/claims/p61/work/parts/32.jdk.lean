/-! the JDK's texts and builders: what their methods do -/
theorem zshr0 {x : Int} (h : r32 x) : zshr x 0 = x := by
  show (Int32.ofInt x >>> ((0 : Int32) &&& 31)).toInt = x
  rw [show Int32.ofInt x >>> ((0 : Int32) &&& 31) = Int32.ofInt x by simp, z32 h]
theorem zshl0 {x : Int} (h : r32 x) : zshl x 0 = x := by
  show (Int32.ofInt x <<< ((0 : Int32) &&& 31)).toInt = x
  rw [show Int32.ofInt x <<< ((0 : Int32) &&& 31) = Int32.ofInt x by simp, z32 h]
theorem zbyte_all : (List.range 128).all (fun n => decide (zand (n : Int) 255 = (n : Int)) && decide (zi8 (n : Int) = (n : Int)) && zb8 (n : Int)) = true := by decide +kernel
theorem zbyte {x : Int} (h : 0 ≤ x ∧ x < 128) : zand x 255 = x ∧ zi8 x = x ∧ zb8 x = true := by
  have h1 := List.all_eq_true.mp zbyte_all x.toNat (List.mem_range.mpr (by omega))
  simp only [Bool.and_eq_true, decide_eq_true_eq] at h1
  rw [show ((x.toNat : Nat) : Int) = x by omega] at h1
  exact ⟨h1.1.1, h1.1.2, h1.2⟩
theorem zSh.g0 {w : zWt} {a : Int} {c n : Nat} (h : zSh w a c n) : 0 ≤ a := by have := h.1; omega
theorem zSh.sl {w : zWt} {a : Int} {c n : Nat} (h : zSh w a c n) : zSh w a c (zsz w a) := by rw [h.ln]; exact h
theorem zSh.ne {w : zWt} {a b : Int} {c e n m : Nat} (h : zSh w a c n) (g : zSh w b e m) (q : c ≠ e) : a ≠ b := fun z => by
  subst z
  have := h.2.symm.trans g.2
  simp at this
  exact q this.1
theorem zwx_s {w w' : zWt} (h : zwx w w') : w'.2.1 = w.2.1 := by obtain ⟨E, rfl⟩ := h; rfl
/-- what a step may change: at most k new cells, a thousand places each; the cells below 81 stay -/
def zFr (k : Nat) (w : zWt) (H : zHt) (w' : zWt) (H' : zHt) : Prop := zwx w w' ∧ w'.2.2.length ≤ w.2.2.length + k ∧ (w'.2.2.map Prod.snd).sum ≤ (w.2.2.map Prod.snd).sum + 1000 * k ∧ ∀ a, a < 81 → H' a = H a
theorem zFr_rfl {k : Nat} {w : zWt} {H : zHt} : zFr k w H w H := ⟨zwx_rfl, by omega, by omega, fun _ _ => rfl⟩
theorem zFr.tr {k m : Nat} {w w1 w2 : zWt} {H H1 H2 : zHt} (h : zFr k w H w1 H1) (g : zFr m w1 H1 w2 H2) : zFr (k + m) w H w2 H2 :=
  ⟨zwx_tr h.1 g.1, by have := h.2.1; have := g.2.1; omega, by have := h.2.2.1; have := g.2.2.1; omega, fun a ha => (g.2.2.2 a ha).trans (h.2.2.2 a ha)⟩
theorem zFr.le {k m : Nat} {w w1 : zWt} {H H1 : zHt} (h : zFr k w H w1 H1) (q : k ≤ m) : zFr m w H w1 H1 := ⟨h.1, by have := h.2.1; omega, by have := h.2.2.1; omega, h.2.2.2⟩
theorem zFr_hp {k : Nat} {w : zWt} {H H' : zHt} (h : ∀ a, a < 81 → H' a = H a) : zFr k w H w H' := ⟨zwx_rfl, by omega, by omega, h⟩
theorem zFr_nw {w : zWt} {H H' : zHt} {k n : Nat} (hn : n ≤ 1000) (h : ∀ a, a < 81 → H' a = H a) : zFr 1 w H (zwp w k n) H' := ⟨zwx_p, by unfold zwp; simp, by unfold zwp; simp; omega, h⟩
theorem zNc81 {w : zWt} : 81 ≤ zNc w := by unfold zNc; omega
theorem zup_o {H : zHt} {o j x a : Int} (h : a ≠ o) : zup H o j x a = H a := funext fun k => zup_ne (fun q => h q.1)
theorem znew_o {H : zHt} {o a : Int} {f : Int → Int} (h : a ≠ o) : znew H o f a = H a := funext fun k => by unfold znew; rw [if_neg h]
theorem znew_at {H : zHt} {o : Int} {f : Int → Int} : znew H o f o = f := funext fun k => by unfold znew; rw [if_pos rfl]
theorem zcpy_o {H : zHt} {o p n a : Int} {f : Int → Int} (h : a ≠ o) : zcpy H o p n f a = H a := funext fun k => by unfold zcpy; rw [if_neg (fun q => h q.1)]
theorem zcpy_in {H : zHt} {o p n j : Int} {f : Int → Int} (h : p ≤ j ∧ j < p + n) : zcpy H o p n f o j = f (j - p) := by unfold zcpy; rw [if_pos ⟨rfl, h⟩]
theorem zcpy_out {H : zHt} {o p n j : Int} {f : Int → Int} (h : ¬ (p ≤ j ∧ j < p + n)) : zcpy H o p n f o j = H o j := by unfold zcpy; rw [if_neg (fun q => h q.2)]
/-- the text of s is u -/
abbrev zTxt (w : zWt) (H : zHt) (s : Int) (u : List Int) : Prop := (zIsT w s) ∧ (zIsB w (zTv H s)) ∧ (zsz w (zTv H s) = u.length) ∧ (zTc H s = 0) ∧ (∀ k : Nat, k < u.length → zM w H (zTv H s) k = u.getD k 0) ∧ (∀ x ∈ u, 0 ≤ x ∧ x < 128) ∧ (u.length ≤ 1000)
theorem zTxt.tt {w : zWt} {H : zHt} {s : Int} {u : List Int} (h : zTxt w H s u) : zIsT w s := h.1
theorem zTxt.tb {w : zWt} {H : zHt} {s : Int} {u : List Int} (h : zTxt w H s u) : zIsB w (zTv H s) := h.2.1
theorem zTxt.tz {w : zWt} {H : zHt} {s : Int} {u : List Int} (h : zTxt w H s u) : zsz w (zTv H s) = u.length := h.2.2.1
theorem zTxt.tc {w : zWt} {H : zHt} {s : Int} {u : List Int} (h : zTxt w H s u) : zTc H s = 0 := h.2.2.2.1
theorem zTxt.tx {w : zWt} {H : zHt} {s : Int} {u : List Int} (h : zTxt w H s u) : ∀ k : Nat, k < u.length → zM w H (zTv H s) k = u.getD k 0 := h.2.2.2.2.1
theorem zTxt.tr {w : zWt} {H : zHt} {s : Int} {u : List Int} (h : zTxt w H s u) : ∀ x ∈ u, 0 ≤ x ∧ x < 128 := h.2.2.2.2.2.1
theorem zTxt.tl {w : zWt} {H : zHt} {s : Int} {u : List Int} (h : zTxt w H s u) : u.length ≤ 1000 := h.2.2.2.2.2.2
/-- the builder o holds the text u -/
abbrev zSB (w : zWt) (H : zHt) (o : Int) (u : List Int) : Prop := (zSh w o 6 4) ∧ (zSh w (H o 0) 102 (zsz w (H o 0))) ∧ (H o 1 = 0) ∧ (H o 3 = u.length) ∧ (u.length ≤ zsz w (H o 0)) ∧ (zsz w (H o 0) ≤ 1000) ∧ (∀ k : Nat, k < u.length → H (H o 0) k = u.getD k 0) ∧ (∀ j : Nat, j < zsz w (H o 0) → zb8 (H (H o 0) j) = true)
theorem zSB.so {w : zWt} {H : zHt} {o : Int} {u : List Int} (h : zSB w H o u) : zSh w o 6 4 := h.1
theorem zSB.sv {w : zWt} {H : zHt} {o : Int} {u : List Int} (h : zSB w H o u) : zSh w (H o 0) 102 (zsz w (H o 0)) := h.2.1
theorem zSB.co {w : zWt} {H : zHt} {o : Int} {u : List Int} (h : zSB w H o u) : H o 1 = 0 := h.2.2.1
theorem zSB.ct {w : zWt} {H : zHt} {o : Int} {u : List Int} (h : zSB w H o u) : H o 3 = u.length := h.2.2.2.1
theorem zSB.le {w : zWt} {H : zHt} {o : Int} {u : List Int} (h : zSB w H o u) : u.length ≤ zsz w (H o 0) := h.2.2.2.2.1
theorem zSB.ca {w : zWt} {H : zHt} {o : Int} {u : List Int} (h : zSB w H o u) : zsz w (H o 0) ≤ 1000 := h.2.2.2.2.2.1
theorem zSB.by' {w : zWt} {H : zHt} {o : Int} {u : List Int} (h : zSB w H o u) : ∀ k : Nat, k < u.length → H (H o 0) k = u.getD k 0 := h.2.2.2.2.2.2.1
theorem zSB.b8 {w : zWt} {H : zHt} {o : Int} {u : List Int} (h : zSB w H o u) : ∀ j : Nat, j < zsz w (H o 0) → zb8 (H (H o 0) j) = true := h.2.2.2.2.2.2.2
theorem zgetD_r {u : List Int} {k : Nat} (h : ∀ x ∈ u, 0 ≤ x ∧ x < 128) (hk : k < u.length) : 0 ≤ u.getD k 0 ∧ u.getD k 0 < 128 := by
  rw [List.getD_eq_getElem?_getD, List.getElem?_eq_getElem hk]
  exact h _ (List.getElem_mem hk)
theorem zgetD_l {u t : List Int} {k : Nat} (h : k < u.length) : (u ++ t).getD k 0 = u.getD k 0 := by
  rw [List.getD_eq_getElem?_getD, List.getD_eq_getElem?_getD, List.getElem?_append_left h]
theorem zgetD_a {u t : List Int} {k : Nat} (h : u.length ≤ k) : (u ++ t).getD k 0 = t.getD (k - u.length) 0 := by
  rw [List.getD_eq_getElem?_getD, List.getD_eq_getElem?_getD, List.getElem?_append_right h]
section ZJ
variable {w : zWt} {d : Nat} {H : zHt} {o s : Int} {u t : List Int}
theorem zj24 {K : Int → zWt → zHt → Prop} (h : zTxt w H s u) (k : K 0 w H) : zcaI w d 24 [zR s] H K := by
  refine xa24_0 ⟨h.tt.ge, h.tt, ?_, ?_⟩
  · rw [h.tc]; decide
  · rw [h.tc]; exact k
theorem zj23 {K : Int → zWt → zHt → Prop} (h : zTxt w H s u) (k : K (u.length : Int) w H) : zcaI w (d + 1) 23 [zR s] H K := by
  refine xa23_0 ⟨h.tt.ge, h.tt, h.tb, zj24 h ?_⟩
  rw [h.tz, zshr0 ⟨by omega, by have := h.tl; omega⟩]
  exact k
theorem zj26 {K : Int → zWt → zHt → Prop} (h : zTxt w H s u) (k : K 1 w H) : zcaI w d 26 [zR s] H K :=
  xa26_0 ⟨h.tt.ge, h.tt, fun q => absurd h.tc q, fun _ => k⟩
theorem zj25 {K : Int → zWt → zHt → Prop} {j : Nat} (h : zTxt w H s u) (hj : j < u.length) (k : K (u.getD j 0) w H) : zcaI w (d + 3) 25 [zR s, zI (j : Int)] H K := by
  have hr := zgetD_r h.tr hj
  have e := (zbyte hr).1
  refine xa25_0 ⟨h.tt.ge, h.tt, zj26 h ⟨fun q => absurd q (by decide), fun _ => ⟨h.tt.ge, h.tt, ?_⟩⟩⟩
  refine xa27_0 ⟨h.tb.ge, h.tb, ?_⟩
  rw [c28b ⟨by omega, by rw [h.tz]; omega⟩, h.tx j hj, e]
  exact ⟨⟨by omega, by rw [h.tz]; omega⟩, by omega, by omega, k⟩
theorem zj188 {K : Int → zWt → zHt → Prop} {a b c : Int} (h : 0 ≤ a ∧ a ≤ 1000 ∧ 0 ≤ b ∧ b ≤ 1000 ∧ 0 < c ∧ c ≤ 2000) (k : K (a + if b < c then c else b) w H) : zcaI w d 188 [zI a, zI b, zI c] H K := by
  refine xa188_0 ?_
  intro v hv
  have hv' : 0 < v ∧ v ≤ 2000 := by subst hv; split <;> omega
  rw [w32_id (by omega)]
  refine ⟨fun q => by omega, fun _ => ⟨fun q => by omega, fun _ => ?_⟩⟩
  rw [hv]; exact k
theorem zj187 {K : Int → zWt → zHt → Prop} {m : Int} (h : zSB w H o u) (hm : (zsz w (H o 0) : Int) < m ∧ m ≤ 300) (k : ∀ c : Int, m ≤ c → c ≤ 1000 → (zsz w (H o 0) : Int) < c → K c w H) : zcaI w (d + 1) 187 [zR o, zI m] H K := by
  have hc := h.ca
  refine xa187_0 ⟨h.so.g0, h.so, h.sv, ?_⟩
  rw [h.co, zshl0 ⟨by omega, by omega⟩, zshl0 ⟨by omega, by omega⟩, w32_id (by omega), w32_id (by omega)]
  refine zj188 (by omega) ?_
  generalize hv : ((zsz w (H o 0) : Int) + if m - (zsz w (H o 0) : Int) < (zsz w (H o 0) : Int) + 2 then (zsz w (H o 0) : Int) + 2 else m - (zsz w (H o 0) : Int)) = v
  have hv' : m ≤ v ∧ v ≤ 1000 ∧ (zsz w (H o 0) : Int) < v := by subst hv; split <;> omega
  refine ⟨fun _ => ⟨h.so.g0, h.so, ?_⟩, fun q => by omega⟩
  rw [h.co, zshr0 ⟨by omega, by omega⟩]
  exact k v hv'.1 hv'.2.1 hv'.2.2
theorem zj189 {K : Int → zWt → zHt → Prop} {v m : Int} {N : Nat} (hv : zSh w v 102 N) (hN : N ≤ 1000) (hm : (N : Int) < m ∧ m ≤ 1000) (h8 : ∀ j : Nat, j < N → zb8 (H v j) = true) (k : ∀ H' : zHt, (∀ a, a ≠ zNc w → H' a = H a) → (∀ j : Nat, j < N → H' (zNc w) j = H v j) → (∀ j : Nat, zb8 (H' (zNc w) j) = true) → K (zNc w) (zwp w 102 m.toNat) H') : zcaR w d 189 [zR v, zI m] H K := by
  have e := hv.ln
  refine xa189_0 ⟨hv.g0, hv.sl, fun _ => ⟨by omega, ?_⟩, fun q => by rw [e] at q; omega⟩
  intro o5 ho w7 hw H9 hH
  have hw7 : w7 = zwp w 102 m.toNat := hw
  have hx : zwx w w7 := by rw [hw7]; exact zwx_p
  have hv' := hv.wx hx
  have e' := hv'.ln
  have hn : zSh w7 o5 102 m.toNat := by rw [hw7, ho]; exact zSh_new
  have hne : v ≠ zNc w := by have := hv.lt; omega
  have hM : ∀ x, zM w7 H9 v x = H v x := fun x => by rw [zM81 hv.1, hH, znew_o hne]
  refine ⟨hn.g0, hv'.sl, ?_⟩
  intro v13 hv13
  rw [e', if_neg (by omega)] at hv13
  refine ⟨Or.inl hv'.sl, hn.sl, ⟨Int.le_refl 0, Int.le_refl 0, by omega, by rw [e']; omega, by rw [hn.ln]; omega⟩, fun j hj => ?_, ?_⟩
  · rw [hM, Int.zero_add]; exact h8 j (by omega)
  intro H19 h19
  rw [ho, hw7]
  refine k H19 (fun a ha => ?_) (fun j hj => ?_) (fun j => ?_)
  · rw [h19, zcpy_o (by rw [ho]; exact ha), hH, znew_o ha]
  · rw [h19, ho, zcpy_in ⟨by omega, by omega⟩, hM]; congr 1; omega
  · rw [h19, ho]
    by_cases hj : (j : Int) < v13
    · rw [zcpy_in ⟨by omega, by omega⟩, hM]
      have := h8 j (by omega)
      rwa [show 0 + ((j : Int) - 0) = (j : Int) by omega]
    · rw [zcpy_out (by omega), hH, znew_at]; rfl
theorem zj186 {K : zWt → zHt → Prop} {m : Int} (h : zSB w H o u) (hm : 0 ≤ m ∧ m ≤ 300) (k : ∀ w' H', zSB w' H' o u → m ≤ (zsz w' (H' o 0) : Int) → zFr 1 w H w' H' → K w' H') : zcaV w (d + 2) 186 [zR o, zI m] H K := by
  have hc := h.ca
  refine xa186_0 ⟨h.so.g0, h.so, h.sv, ?_⟩
  rw [h.co, zshr0 ⟨by omega, by omega⟩, w32_id (by omega)]
  refine ⟨fun q => k w H h (by omega) zFr_rfl, fun q => zj187 h ⟨by omega, hm.2⟩ ?_⟩
  intro c hc1 hc2 hc3
  refine ⟨h.so.g0, h.so, ?_⟩
  rw [h.co, zshl0 ⟨by omega, by omega⟩]
  refine zj189 h.sv h.ca ⟨hc3, hc2⟩ h.b8 ?_
  intro H' h1 h2 h3
  have hx : zwx w (zwp w 102 c.toNat) := zwx_p
  refine ⟨h.so.wx hx, ?_⟩
  intro H14 e14
  have hol := h.so.lt
  have e0 : H14 o 0 = zNc w := by rw [e14]; exact zup_at
  have e1 : ∀ j, j ≠ 0 → H14 o j = H o j := fun j hj => by rw [e14, zup_ne (fun q => hj q.2), h1 o (by omega)]
  have e2 : H14 (zNc w) = H' (zNc w) := by rw [e14]; exact zup_o (by omega)
  have hn : zSh (zwp w 102 c.toNat) (zNc w) 102 c.toNat := zSh_new
  have h5 := h.le
  refine k _ _ ⟨h.so.wx hx, ?_, ?_, ?_, ?_, ?_, ?_, ?_⟩ ?_ ?_
  · rw [e0]; exact hn.sl
  · rw [e1 1 (by decide)]; exact h.co
  · rw [e1 3 (by decide)]; exact h.ct
  · rw [e0, hn.ln]; omega
  · rw [e0, hn.ln]; omega
  · intro j hj; rw [e0, e2, h2 j (by omega)]; exact h.by' j hj
  · intro j _; rw [e0, e2]; exact h3 j
  · rw [e0, hn.ln]; omega
  · refine zFr_nw (by omega) (fun a ha => ?_)
    have := h.so.1
    rw [e14, zup_o (by omega), h1 a (by have := @zNc81 w; omega)]
theorem zj192 {K : zWt → zHt → Prop} (h : zSB w H o u) (ht : zTxt w H s t) (k : K w H) : zcaV w (d + 1) 192 [zR o, zR s] H K :=
  xa192_0 ⟨h.so.g0, h.so, ht.tt.ge, ht.tt, zj24 ht ⟨fun _ => k, fun q => absurd h.co q⟩⟩
theorem zj193 {K : zWt → zHt → Prop} {b i : Int} {N : Nat} (ht : zTxt w H s t) (hb : zSh w b 102 N) (hi : 0 ≤ i ∧ i + t.length ≤ N ∧ N ≤ 1000) (k : ∀ H', (∀ a, a ≠ b → H' a = H a) → (∀ j, ¬ (i ≤ j ∧ j < i + t.length) → H' b j = H b j) → (∀ j : Nat, j < t.length → H' b (i + j) = t.getD j 0) → K w H') : zcaV w (d + 1) 193 [zR s, zR b, zI i, zI 0] H K := by
  refine xa193_0 ⟨ht.tt.ge, ht.tt, zj24 ht ⟨fun q => absurd rfl q, fun _ => ?_⟩⟩
  have e := hb.ln
  refine ⟨ht.tt.ge, ht.tt, hb.g0, ht.tb, hb.sl, ?_⟩
  rw [zshl0 ⟨by omega, by omega⟩, ht.tz, e]
  refine ⟨⟨Int.le_refl 0, by omega, by omega, by omega, by omega⟩, fun j hj => ?_, ?_⟩
  · rw [Int.zero_add, ht.tx j (by omega)]; exact (zbyte (zgetD_r ht.tr (by omega))).2.2
  intro H18 h18
  refine k H18 (fun a ha => by rw [h18, zcpy_o ha]) (fun j hj => by rw [h18, zcpy_out hj]) (fun j hj => ?_)
  rw [h18, zcpy_in ⟨by omega, by omega⟩, show 0 + (i + (j : Int) - i) = (j : Int) by omega]
  exact ht.tx j hj
theorem zSB_add (h : zSB w H o u) {H1 H2 : zHt} (ht : ∀ x ∈ t, 0 ≤ x ∧ x < 128) (hl : u.length + t.length ≤ zsz w (H o 0)) (h1 : ∀ a, a ≠ H o 0 → a ≠ o → H2 a = H a) (h0 : ∀ j, j ≠ 3 → H2 o j = H o j) (h3 : H2 o 3 = ((u ++ t).length : Int)) (h4 : ∀ j, ¬ ((u.length : Int) ≤ j ∧ j < (u.length : Int) + t.length) → H2 (H o 0) j = H (H o 0) j) (h5 : ∀ j : Nat, j < t.length → H2 (H o 0) ((u.length : Int) + j) = t.getD j 0) : zSB w H2 o (u ++ t) := by
  have e0 : H2 o 0 = H o 0 := h0 0 (by decide)
  have hl' : (u ++ t).length = u.length + t.length := List.length_append
  refine ⟨h.so, by rw [e0]; exact h.sv, by rw [h0 1 (by decide)]; exact h.co, h3, by rw [e0]; omega, by rw [e0]; exact h.ca, fun k hk => ?_, fun k hk => ?_⟩
  · rw [e0]
    by_cases q : k < u.length
    · rw [h4 k (by omega), zgetD_l q]; exact h.by' k q
    · have := h5 (k - u.length) (by omega)
      rw [show ((u.length : Int) + ((k - u.length : Nat) : Int)) = (k : Int) by omega] at this
      rw [this, zgetD_a (by omega)]
  · rw [e0] at hk ⊢
    by_cases q : u.length ≤ k ∧ k < u.length + t.length
    · have := h5 (k - u.length) (by omega)
      rw [show ((u.length : Int) + ((k - u.length : Nat) : Int)) = (k : Int) by omega] at this
      rw [this]
      exact (zbyte (zgetD_r ht (by omega))).2.2
    · rw [h4 k (by omega)]; exact h.b8 k hk
theorem zj185 {K : Int → zWt → zHt → Prop} (h : zSB w H o u) (ht : ∀ w H, zTxt w H s t) (hl : u.length + t.length ≤ 300) (k : ∀ w' H', zSB w' H' o (u ++ t) → zFr 1 w H w' H' → K o w' H') : zcaR w (d + 3) 185 [zR o, zR s] H K := by
  refine xa185_0 ⟨(ht w H).tt.ge, (ht w H).tt, zj23 (ht w H) ?_⟩
  refine ⟨h.so.g0, h.so, ?_⟩
  rw [h.ct, w32_id (by omega)]
  refine zj186 h (by omega) ?_
  intro w' H' h' hc hf
  have ca := h'.ca
  refine ⟨h'.so.g0, h'.so, (ht w' H').tt.ge, ?_⟩
  refine xa191_0 ⟨h'.so.g0, (ht w' H').tt.ge, h'.so, zj192 h' (ht w' H') ?_⟩
  refine ⟨(ht w' H').tt.ge, h'.so.g0, h'.so, (ht w' H').tt, ?_⟩
  rw [h'.ct, h'.co]
  refine zj193 (ht w' H') h'.sv ⟨by omega, by omega, ca⟩ ?_
  intro H2 a1 a2 a3
  refine ⟨h'.so.g0, h'.so, ?_⟩
  intro H3 e3
  have ne : o ≠ H' o 0 := h'.so.ne h'.sv (by decide)
  have e4 : H2 o = H' o := a1 o ne
  rw [e4, h'.ct, w32_id (by omega)] at e3
  have o81 := h'.so.1
  have v81 := h'.sv.1
  refine k w' H3 (zSB_add (H1 := H') h' (ht w' H').tr (by omega) (fun a b c => ?_) (fun j hj => ?_) ?_ (fun j hj => ?_) (fun j hj => ?_)) (hf.tr (m := 0) (zFr_hp fun a ha => ?_))
  · rw [e3, zup_o c, a1 a b]
  · rw [e3, zup_ne (fun q => hj q.2), e4]
  · rw [e3, zup_at, List.length_append]; omega
  · rw [e3, zup_o ne.symm]; exact a2 j hj
  · rw [e3, zup_o ne.symm]; exact a3 j hj
  · rw [e3, zup_o (by omega), a1 a (by omega)]
theorem zj184 {K : Int → zWt → zHt → Prop} (h : zSB w H o u) (ht : ∀ w H, zTxt w H s t) (hl : u.length + t.length ≤ 300) (k : ∀ w' H', zSB w' H' o (u ++ t) → zFr 1 w H w' H' → K o w' H') : zcaR w (d + 4) 184 [zR o, zR s] H K :=
  xa184_0 ⟨h.so.g0, (ht w H).tt.ge, h.so, zj185 h ht hl fun w' H' a b => ⟨h.so.g0, k w' H' a b⟩⟩
theorem zj190 {K : Int → zWt → zHt → Prop} (h : zSB w H o u) (k : K 1 w H) : zcaI w d 190 [zR o] H K :=
  xa190_0 ⟨h.so.g0, h.so, fun q => absurd h.co q, fun _ => k⟩
theorem zj200 {K : Int → zWt → zHt → Prop} {c : Int} (hc : c < 128) (k : K 1 w H) : zcaI w d 200 [zI c] H K :=
  xa200_0 ⟨fun q => by omega, fun _ => k⟩
theorem zj198 {K : Int → zWt → zHt → Prop} {c : Int} (h : zSB w H o u) (hc : 0 ≤ c ∧ c < 128) (hl : u.length ≤ 299) (k : ∀ w' H', zSB w' H' o (u ++ [c]) → zFr 1 w H w' H' → K o w' H') : zcaR w (d + 4) 198 [zR o, zI c] H K := by
  refine xa198_0 ⟨h.so.g0, h.so, xa199_0 ⟨h.so.g0, h.so, ?_⟩⟩
  rw [h.ct, w32_id (by omega)]
  refine zj186 h (by omega) ?_
  intro w' H' h' hcp hf
  refine ⟨h'.so.g0, h'.so, zj190 h' ⟨fun q => absurd q (by decide), fun _ => zj200 hc.2 ⟨fun q => absurd q (by decide), fun _ => ⟨h'.so.g0, h'.so, ?_⟩⟩⟩⟩
  have ca := h'.ca
  have ne : o ≠ H' o 0 := h'.so.ne h'.sv (by decide)
  have o81 := h'.so.1
  have v81 := h'.sv.1
  intro H1 e1
  rw [h'.ct] at e1 ⊢
  rw [w32_id (by omega)] at e1
  refine ⟨h'.sv, ⟨by omega, by omega⟩, ?_⟩
  intro H2 e2
  rw [(zbyte hc).2.1, (zbyte hc).2.1] at e2
  refine ⟨h.so.g0, k w' H2 (zSB_add (H1 := H') h' (fun x hx => ?_) (by show u.length + 1 ≤ _; omega) (fun a b c => ?_) (fun j hj => ?_) ?_ (fun j hj => ?_) (fun j hj => ?_)) (hf.tr (m := 0) (zFr_hp fun a ha => ?_))⟩
  · rw [List.mem_singleton.mp hx]; exact hc
  · rw [e2, zup_o b, e1, zup_o c]
  · rw [e2, zup_o ne, e1, zup_ne (fun q => hj q.2)]
  · rw [e2, zup_o ne, e1, zup_at, List.length_append]; rfl
  · rw [e2, zup_ne (fun q => hj ⟨by omega, by show j < (u.length : Int) + ((1 : Nat) : Int); omega⟩), e1, zup_o ne.symm]
  · have : j = 0 := by have : j < 1 := hj; omega
    subst this
    rw [e2, show (u.length : Int) + ((0 : Nat) : Int) = u.length by omega, zup_at]; rfl
  · rw [e2, zup_o (by omega), e1, zup_o (by omega)]
end ZJ
