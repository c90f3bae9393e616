/-! runs that make new cells: the world grows behind the built one -/
def zga (w : zWt) (d y pc : Nat) (ls st : List zV) (H : zHt) (Q : zV → zWt → zHt → Prop) : Prop := ∃ (n : Nat) (r : zV) (w' : zWt) (H' : zHt), ex n d y pc ls st (zS w H) = some (r, zS w' H') ∧ (w'.1 = w.1 ∧ w'.2.1 = w.2.1) ∧ zmk H H' ∧ Q r w' H'
/-- a cell of ours behind the built world, its kind and its length -/
def zSh (w : zWt) (a : Int) (c n : Nat) : Prop := 81 ≤ a ∧ zsh (zS w (fun _ _ => 0)) a = some (c, n)
def zsz (w : zWt) (a : Int) : Nat := match zsh (zS w (fun _ _ => 0)) a with
  | some (_, n) => n
  | none => 0
theorem zSh.sh {w : zWt} {H : zHt} {a : Int} {c n : Nat} (h : zSh w a c n) : zsh (zS w H) a = some (c, n) := h.2
theorem zSh.ln {w : zWt} {a : Int} {c n : Nat} (h : zSh w a c n) : zsz w a = n := by unfold zsz; rw [h.2]
theorem zSh.ge {w : zWt} {a : Int} {c n : Nat} (h : zSh w a c n) : 32 ≤ a := Int.le_trans (by decide) h.1
theorem zSh.self {w : zWt} {a : Int} {c n : Nat} (h : zSh w a c n) : zSh w a c (zsz w a) := by rw [h.ln]; exact h
theorem zfx81 {a j : Int} (h : 81 ≤ a) : zfx a j = none := by
  unfold zfx
  rw [List.getElem?_eq_none (by show 49 ≤ (a - 32).toNat; omega)]
theorem zM81 {w : zWt} {H : zHt} {a j : Int} (h : 81 ≤ a) : zM w H a j = H a j := zM_no (by omega) (zfx81 h)
/-- the next cell, the world with it -/
def zNc (w : zWt) : Int := 81 + w.2.2.length
def zwp (w : zWt) (k n : Nat) : zWt := (w.1, w.2.1, w.2.2 ++ [(k, n)])
theorem zSHx_len (E : List (Nat × Nat)) : (zSHx E).length = 49 + E.length := by
  unfold zSHx
  simp only [List.length_cons]; omega
theorem zSHx_app (E F : List (Nat × Nat)) : zSHx (E ++ F) = zSHx E ++ F := rfl
theorem zsh81 {w : zWt} {H : zHt} {a : Int} (h : 81 ≤ a) : zsh (zS w H) a = w.2.2[(a - 81).toNat]? := by
  unfold zsh
  rw [if_neg (by omega), if_neg (by omega)]
  show (zSHx w.2.2)[(a - 32).toNat]? = _
  rw [show (a - 32).toNat = 49 + (a - 81).toNat by omega]
  have e : zSHx w.2.2 = zSHx [] ++ w.2.2 := by rw [← zSHx_app, List.nil_append]
  rw [e, List.getElem?_append_right (by rw [zSHx_len]; simp)]
  rw [zSHx_len]
  congr 1
  simp
/-- the world has grown -/
def zwx (w w' : zWt) : Prop := ∃ E : List (Nat × Nat), w' = (w.1, w.2.1, w.2.2 ++ E)
theorem zwx_rfl {w : zWt} : zwx w w := ⟨[], by rw [List.append_nil]⟩
theorem zwx_tr {w w1 w2 : zWt} (h1 : zwx w w1) (h2 : zwx w1 w2) : zwx w w2 := by
  obtain ⟨E, rfl⟩ := h1
  obtain ⟨F, rfl⟩ := h2
  exact ⟨E ++ F, by rw [List.append_assoc]⟩
theorem zwx_p {w : zWt} {k n : Nat} : zwx w (zwp w k n) := ⟨_, rfl⟩
theorem zwx_nx {w w' : zWt} (h : zwx w w') : zNc w ≤ zNc w' := by
  obtain ⟨E, rfl⟩ := h
  unfold zNc
  simp only [List.length_append]; omega
theorem zSh.lt {w : zWt} {a : Int} {c n : Nat} (h : zSh w a c n) : a < zNc w := by
  obtain ⟨h1, h2⟩ := h
  rw [zsh81 h1] at h2
  have := (List.getElem?_eq_some_iff.mp h2).1
  unfold zNc
  omega
theorem zSh.wx {w w' : zWt} {a : Int} {c n : Nat} (h : zSh w a c n) (hx : zwx w w') : zSh w' a c n := by
  obtain ⟨E, rfl⟩ := hx
  have hl := h.lt
  obtain ⟨h1, h2⟩ := h
  refine ⟨h1, ?_⟩
  rw [zsh81 h1] at h2 ⊢
  rw [List.getElem?_append_left (by unfold zNc at hl; omega)]
  exact h2
theorem zSh_new {w : zWt} {k n : Nat} : zSh (zwp w k n) (zNc w) k n := by
  refine ⟨by unfold zNc; omega, ?_⟩
  rw [zsh81 (by unfold zNc; omega)]
  show (w.2.2 ++ [(k, n)])[(zNc w - 81).toNat]? = _
  rw [List.getElem?_append_right (by unfold zNc; omega), show (zNc w - 81).toNat - w.2.2.length = 0 by unfold zNc; omega]
  rfl
theorem zM_new {w : zWt} {H : zHt} {o : Int} {f : Int → Int} {w' : zWt} (ho : 81 ≤ o) (hw : w'.2.1 = w.2.1) : znew (zM w H) o f = zM w' (znew H o f) := by
  funext a j
  unfold znew zM
  by_cases h : a = o
  · subst h
    simp only [if_true]
    rw [if_neg (by omega), zfx81 ho]
  · simp only [if_neg h, hw]
theorem zM_cpy {w : zWt} {H : zHt} {b p n : Int} {f : Int → Int} (hb : 81 ≤ b) : zcpy (zM w H) b p n f = zM w (zcpy H b p n f) := by
  funext a j
  unfold zcpy zM
  by_cases h : a = b ∧ p ≤ j ∧ j < p + n
  · obtain ⟨rfl, h2⟩ := h
    rw [if_pos ⟨rfl, h2⟩, if_neg (by omega), zfx81 hb]
    exact (if_pos ⟨rfl, h2⟩).symm
  · rw [if_neg h]
    simp only [if_neg h]
theorem zmk_new {H : zHt} {o : Int} {f : Int → Int} (ho : 81 ≤ o) : zmk H (znew H o f) := fun a j h => by
  unfold znew
  rcases h with h | h
  · rw [if_neg (by omega)]
  · rw [if_neg (fun q => h (by rw [q]; exact zfx81 ho))]
theorem zmk_cpy {H : zHt} {b p n : Int} {f : Int → Int} (hb : 81 ≤ b) : zmk H (zcpy H b p n f) := fun a j h => by
  unfold zcpy
  rcases h with h | h
  · rw [if_neg (by omega)]
  · rw [if_neg (fun q => h (by rw [q.1]; exact zfx81 hb))]
/-- a text: a constant's, or one of ours; its bytes -/
def zIsT (w : zWt) (s : Int) : Prop := (2 ≤ s ∧ s < 10) ∨ (18 ≤ s ∧ s < 22) ∨ zSh w s 7 4
def zTv (H : zHt) (s : Int) : Int := if s < 10 then s + 8 else if s < 22 then s + 4 else H s 0
def zTc (H : zHt) (s : Int) : Int := if s < 22 then 0 else H s 1
def zIsB (w : zWt) (v : Int) : Prop := zSh w v 102 (zsz w v) ∨ ((0 ≤ v ∧ v < 32) ∧ zsh (zS w (fun _ _ => 0)) v = some (91, zsz w v))
theorem zIsT.ge {w : zWt} {s : Int} (h : zIsT w s) : 0 ≤ s := by
  rcases h with h | h | h
  · omega
  · omega
  · have := h.1; omega
theorem zIsB.ge {w : zWt} {s : Int} (h : zIsB w s) : 0 ≤ s := by
  rcases h with h | h
  · have := h.1; omega
  · omega
theorem zrecvT {w : zWt} {H : zHt} {b t : Nat} {s : Int} {as : List zV} (h : zIsT w s) (h9 : (zin t 2 == 90) = true) : zrecv (zS w H) b t (zR s :: as) = true := by
  have h9' : zin t 2 = 90 := by simpa using h9
  unfold zrecv
  split
  · rfl
  · show (match zsh (zS w H) s with | some (c, _) => c == zin t 2 || (zin t 2 == 90 && c == 7) | none => false) = true
    have e : zsh (zS w H) s = some (90, 2) ∨ zsh (zS w H) s = some (7, 4) := by
      rcases h with h | h | h
      · left
        unfold zsh
        rw [if_neg (by omega), if_pos (by omega)]
        unfold zF
        rw [if_neg (by omega), if_neg (by omega), if_pos (by omega)]
      · left
        unfold zsh
        rw [if_neg (by omega), if_pos (by omega)]
        unfold zF
        rw [if_neg (by omega), if_neg (by omega), if_neg (by omega), if_neg (by omega), if_pos (by omega)]
      · exact Or.inr h.2
    rcases e with e | e <;> rw [e, h9'] <;> rfl
section ZA
variable {w : zWt} {d y pc q : Nat} {ls ls' st : List zV} {H : zHt} {Q : zV → zWt → zHt → Prop} {l : List (Option zC)} {n a b : Nat} {k : Int} {e : List Int}
theorem ga_stepU {i : zC} {st' : List zV} {w' : zWt} {H' : zHt} (hp : zprog.getD y [] = l) (hf : l.getD pc none = some i) (h0 : Nat.beq i.1 100 = false) (h1 : Nat.beq i.1 101 = false) (hs : zstep i pc ls st (zS w H) = some (q, ls', st', zS w' H')) (hw : w'.1 = w.1 ∧ w'.2.1 = w.2.1) (hm : zmk H H') (K : zga w' d y q ls' st' H' Q) : zga w d y pc ls st H Q := by
  obtain ⟨n, r, w2, H2, h, hw2, hm2, hq⟩ := K
  refine ⟨n + 1, r, w2, H2, ?_, ⟨hw2.1.trans hw.1, hw2.2.trans hw.2⟩, zmk_tr hm hm2, hq⟩
  have hff : zfetch y pc = some i := by unfold zfetch; rw [hp]; exact hf
  rw [ex, hff]
  dsimp only
  rw [if_neg (Nat.ne_of_beq_eq_false h0), if_neg (Nat.ne_of_beq_eq_false h1), hs]
  exact h
theorem ga_step {i : zC} {st' : List zV} (hp : zprog.getD y [] = l) (hf : l.getD pc none = some i) (h0 : Nat.beq i.1 100 = false) (h1 : Nat.beq i.1 101 = false) (hs : zstep i pc ls st (zS w H) = some (q, ls', st', zS w H)) (K : zga w d y q ls' st' H Q) : zga w d y pc ls st H Q :=
  ga_stepU hp hf h0 h1 hs ⟨rfl, rfl⟩ zmk_rfl K
theorem ga_weak (hl : zle ls ls') (K : zga w d y pc ls' st H Q) : zga w d y pc ls st H Q := by
  obtain ⟨n, r, w2, H2, h, hm, hq⟩ := K
  exact ⟨n, r, w2, H2, ex_weak _ _ _ _ _ _ _ _ _ hl h, hm, hq⟩
theorem ga_mono {Q' : zV → zWt → zHt → Prop} (K : zga w d y pc ls st H Q') (h : ∀ r w' H', Q' r w' H' → Q r w' H') : zga w d y pc ls st H Q := by
  obtain ⟨n, r, w2, H2, hx, hw, hm, hq⟩ := K
  exact ⟨n, r, w2, H2, hx, hw, hm, h _ _ _ hq⟩
theorem ga_go {Q' : zV → zHt → Prop} (K : zgo w d y pc ls st H Q') (h : ∀ r H', Q' r H' → Q r w H') : zga w d y pc ls st H Q := by
  obtain ⟨n, r, H2, hx, hm, hq⟩ := K
  exact ⟨n, r, w, H2, hx, ⟨rfl, rfl⟩, hm, h _ _ hq⟩
theorem ga_ic (hp : zprog.getD y [] = l) (hf : l.getD pc none = some (1, n, a, b, k, e)) (hq : pc + n = q) (K : zga w d y q ls (zI k :: st) H Q) : zga w d y pc ls st H Q := by
  subst hq; exact ga_step hp hf rfl rfl rfl K
theorem ga_lc (hp : zprog.getD y [] = l) (hf : l.getD pc none = some (2, n, a, b, k, e)) (hq : pc + n = q) (K : zga w d y q ls (zL k :: st) H Q) : zga w d y pc ls st H Q := by
  subst hq; exact ga_step hp hf rfl rfl rfl K
theorem ga_il {x : Int} (hp : zprog.getD y [] = l) (hf : l.getD pc none = some (3, n, a, b, k, e)) (hq : pc + n = q) (hl : ls[a]? = some (zI x)) (K : zga w d y q ls (zI x :: st) H Q) : zga w d y pc ls st H Q := by
  subst hq
  refine ga_step hp hf rfl rfl ?_ K
  rw [zstep_eq (f := zs_iload) rfl]
  simp only [zs_iload, hl]
theorem ga_ll {x : Int} (hp : zprog.getD y [] = l) (hf : l.getD pc none = some (4, n, a, b, k, e)) (hq : pc + n = q) (hl : ls[a]? = some (zL x)) (K : zga w d y q ls (zL x :: st) H Q) : zga w d y pc ls st H Q := by
  subst hq
  refine ga_step hp hf rfl rfl ?_ K
  rw [zstep_eq (f := zs_lload) rfl]
  simp only [zs_lload, hl]
theorem ga_al {x : Int} (hp : zprog.getD y [] = l) (hf : l.getD pc none = some (5, n, a, b, k, e)) (hq : pc + n = q) (hl : ls[a]? = some (zR x)) (h0 : 0 ≤ x) (K : zga w d y q ls (zR x :: st) H Q) : zga w d y pc ls st H Q := by
  subst hq
  refine ga_step hp hf rfl rfl ?_ K
  rw [zstep_eq (f := zs_aload) rfl]
  simp only [zs_aload, hl]
  rw [if_neg (by omega)]
theorem ga_is {x : Int} (hp : zprog.getD y [] = l) (hf : l.getD pc none = some (6, n, a, b, k, e)) (hq : pc + n = q) (hlt : a < ls.length) (hz : zset1 ls a (zI x) = ls') (K : zga w d y q ls' st H Q) : zga w d y pc ls (zI x :: st) H Q := by
  subst hq; subst hz
  refine ga_step hp hf rfl rfl ?_ K
  rw [zstep_eq (f := zs_istore) rfl]
  simp only [zs_istore]
  rw [if_pos hlt]
theorem ga_ls {x : Int} (hp : zprog.getD y [] = l) (hf : l.getD pc none = some (7, n, a, b, k, e)) (hq : pc + n = q) (hlt : a + 1 < ls.length) (hz : zset2 ls a (zL x) = ls') (K : zga w d y q ls' st H Q) : zga w d y pc ls (zL x :: st) H Q := by
  subst hq; subst hz
  refine ga_step hp hf rfl rfl ?_ K
  rw [zstep_eq (f := zs_lstore) rfl]
  simp only [zs_lstore]
  rw [if_pos hlt]
theorem ga_as {x : Int} (hp : zprog.getD y [] = l) (hf : l.getD pc none = some (8, n, a, b, k, e)) (hq : pc + n = q) (hlt : a < ls.length) (h0 : 0 ≤ x) (hz : zset1 ls a (zR x) = ls') (K : zga w d y q ls' st H Q) : zga w d y pc ls (zR x :: st) H Q := by
  subst hq; subst hz
  refine ga_step hp hf rfl rfl ?_ K
  rw [zstep_eq (f := zs_astore) rfl]
  simp only [zs_astore]
  rw [if_neg (by omega), if_pos hlt]
theorem ga_inc {x : Int} (hp : zprog.getD y [] = l) (hf : l.getD pc none = some (9, n, a, b, k, e)) (hq : pc + n = q) (hl : ls[a]? = some (zI x)) (hz : zset1 ls a (zI (w32 (x + k))) = ls') (K : zga w d y q ls' st H Q) : zga w d y pc ls st H Q := by
  subst hq; subst hz
  refine ga_step hp hf rfl rfl ?_ K
  rw [zstep_eq (f := zs_iinc) rfl]
  simp only [zs_iinc, hl]
theorem ga_ar {x z r : Int} (hp : zprog.getD y [] = l) (hf : l.getD pc none = some (10, n, a, b, k, e)) (hq : pc + n = q) (hr : zIar a x z = some r) (K : zga w d y q ls (zI r :: st) H Q) : zga w d y pc ls (zI z :: zI x :: st) H Q := by
  subst hq
  refine ga_step hp hf rfl rfl ?_ K
  rw [zstep_eq (f := zs_iar) rfl]
  simp only [zs_iar, hr]; rfl
theorem ga_lar {x z r : Int} (hp : zprog.getD y [] = l) (hf : l.getD pc none = some (11, n, a, b, k, e)) (hq : pc + n = q) (hr : zLar a x z = some r) (K : zga w d y q ls (zL r :: st) H Q) : zga w d y pc ls (zL z :: zL x :: st) H Q := by
  subst hq
  refine ga_step hp hf rfl rfl ?_ K
  rw [zstep_eq (f := zs_lar) rfl]
  simp only [zs_lar, hr]; rfl
theorem ga_neg {x : Int} (hp : zprog.getD y [] = l) (hf : l.getD pc none = some (13, n, 0, b, k, e)) (hq : pc + n = q) (K : zga w d y q ls (zI (w32 (-x)) :: st) H Q) : zga w d y pc ls (zI x :: st) H Q := by
  subst hq; exact ga_step hp hf rfl rfl rfl K
theorem ga_i2l {x : Int} (hp : zprog.getD y [] = l) (hf : l.getD pc none = some (13, n, 1, b, k, e)) (hq : pc + n = q) (K : zga w d y q ls (zL x :: st) H Q) : zga w d y pc ls (zI x :: st) H Q := by
  subst hq; exact ga_step hp hf rfl rfl rfl K
theorem ga_l2i {x : Int} (hp : zprog.getD y [] = l) (hf : l.getD pc none = some (13, n, 2, b, k, e)) (hq : pc + n = q) (K : zga w d y q ls (zI (w32 x) :: st) H Q) : zga w d y pc ls (zL x :: st) H Q := by
  subst hq; exact ga_step hp hf rfl rfl rfl K
theorem ga_i2b {x : Int} (hp : zprog.getD y [] = l) (hf : l.getD pc none = some (13, n, 3, b, k, e)) (hq : pc + n = q) (K : zga w d y q ls (zI (zi8 x) :: st) H Q) : zga w d y pc ls (zI x :: st) H Q := by
  subst hq; exact ga_step hp hf rfl rfl rfl K
theorem ga_i2c {x : Int} (hp : zprog.getD y [] = l) (hf : l.getD pc none = some (13, n, 4, b, k, e)) (hq : pc + n = q) (hx : 0 ≤ x ∧ x < 65536) (K : zga w d y q ls (zI x :: st) H Q) : zga w d y pc ls (zI x :: st) H Q := by
  subst hq
  refine ga_step hp hf rfl rfl ?_ K
  rw [zstep_eq (f := zs_un) rfl]
  simp only [zs_un]
  rw [if_pos hx]
theorem ga_if {x : Int} {P N : Prop} (hp : zprog.getD y [] = l) (hf : l.getD pc none = some (15, n, a, b, k, e)) (hq : pc + n = q) (hc : (zcond a x 0 = true → P) ∧ (zcond a x 0 = false → N)) (h1 : P → zga w d y b ls st H Q) (h2 : N → zga w d y q ls st H Q) : zga w d y pc ls (zI x :: st) H Q := by
  subst hq
  cases hz : zcond a x 0 with
  | true =>
    refine ga_step hp hf rfl rfl ?_ (h1 (hc.1 hz))
    rw [zstep_eq (f := zs_if) rfl]
    simp only [zs_if, hz]; rfl
  | false =>
    refine ga_step hp hf rfl rfl ?_ (h2 (hc.2 hz))
    rw [zstep_eq (f := zs_if) rfl]
    simp only [zs_if, hz]; rfl
theorem ga_icmp {x z : Int} {P N : Prop} (hp : zprog.getD y [] = l) (hf : l.getD pc none = some (16, n, a, b, k, e)) (hq : pc + n = q) (hc : (zcond a x z = true → P) ∧ (zcond a x z = false → N)) (h1 : P → zga w d y b ls st H Q) (h2 : N → zga w d y q ls st H Q) : zga w d y pc ls (zI z :: zI x :: st) H Q := by
  subst hq
  cases hz : zcond a x z with
  | true =>
    refine ga_step hp hf rfl rfl ?_ (h1 (hc.1 hz))
    rw [zstep_eq (f := zs_icmp) rfl]
    simp only [zs_icmp, hz]; rfl
  | false =>
    refine ga_step hp hf rfl rfl ?_ (h2 (hc.2 hz))
    rw [zstep_eq (f := zs_icmp) rfl]
    simp only [zs_icmp, hz]; rfl
theorem ga_cmp {x z : Int} (hp : zprog.getD y [] = l) (hf : l.getD pc none = some (14, n, a, b, k, e)) (hq : pc + n = q) (K : zga w d y q ls (zI (zcmp x z) :: st) H Q) : zga w d y pc ls (zL z :: zL x :: st) H Q := by
  subst hq; exact ga_step hp hf rfl rfl rfl K
theorem ga_lcmp {q2 n2 a2 b2 : Nat} {k2 : Int} {e2 : List Int} {x z : Int} {P N : Prop} (hp : zprog.getD y [] = l) (hf : l.getD pc none = some (14, n, a, b, k, e)) (hq : pc + n = q2) (hf2 : l.getD q2 none = some (15, n2, a2, b2, k2, e2)) (hq2 : q2 + n2 = q) (hc : (zcond a2 x z = true → P) ∧ (zcond a2 x z = false → N)) (h1 : P → zga w d y b2 ls st H Q) (h2 : N → zga w d y q ls st H Q) : zga w d y pc ls (zL z :: zL x :: st) H Q := by
  refine ga_cmp hp hf hq (ga_if hp hf2 hq2 ?_ h1 h2)
  rw [zcmp_cond]; exact hc
theorem ga_goto (hp : zprog.getD y [] = l) (hf : l.getD pc none = some (17, n, a, b, k, e)) (K : zga w d y b ls st H Q) : zga w d y pc ls st H Q :=
  ga_step hp hf rfl rfl rfl K
theorem ga_get {o : Int} {v : zV} {c N : Nat} (hp : zprog.getD y [] = l) (hf : l.getD pc none = some (18, n, a, b, k, e)) (hq : pc + n = q) (hsh : zsh (zS w H) o = some (c, N)) (hc : c = a ∧ b < N ∧ 32 ≤ o) (hv : ztag (zft a b) (zM w H o b) = v) (K : zga w d y q ls (v :: st) H Q) : zga w d y pc ls (zR o :: st) H Q := by
  subst hq
  refine ga_step hp hf rfl rfl ?_ K
  rw [zstep_eq (f := zs_get) rfl]
  simp only [zs_get, hsh]
  rw [if_pos hc, ← hv]; rfl
theorem ga_put {o : Int} {v : zV} {c N : Nat} (hp : zprog.getD y [] = l) (hf : l.getD pc none = some (19, n, a, b, k, e)) (hq : pc + n = q) (hsh : zsh (zS w H) o = some (c, N)) (hc : c = a ∧ b < N ∧ 32 ≤ o) (hx : zfx o b = none) (hv : zokv (zft a b) v = true) (K : zga w d y q ls st (zup H o b v.2) Q) : zga w d y pc ls (v :: zR o :: st) H Q := by
  subst hq
  refine ga_stepU hp hf rfl rfl ?_ ⟨rfl, rfl⟩ (zmk_up hc.2.2 hx) K
  rw [zstep_eq (f := zs_put) rfl]
  simp only [zs_put, hsh]
  rw [if_pos ⟨hc.1, hc.2.1, hc.2.2, hv⟩]
  show some (_, _, _, w.1, zSHx w.2.2, zup (zM w H) o b v.2) = _
  rw [zM_up hc.2.2 hx]; rfl
theorem ga_len {o : Int} {c N : Nat} (hp : zprog.getD y [] = l) (hf : l.getD pc none = some (20, n, a, b, k, e)) (hq : pc + n = q) (hsh : zsh (zS w H) o = some (c, N)) (hc : 91 ≤ c) (K : zga w d y q ls (zI N :: st) H Q) : zga w d y pc ls (zR o :: st) H Q := by
  subst hq
  refine ga_step hp hf rfl rfl ?_ K
  rw [zstep_eq (f := zs_alen) rfl]
  simp only [zs_alen, hsh]
  rw [if_pos hc]
theorem ga_ald {o j : Int} {v : zV} {c N : Nat} (hp : zprog.getD y [] = l) (hf : l.getD pc none = some (21, n, a, b, k, e)) (hq : pc + n = q) (hsh : zsh (zS w H) o = some (c, N)) (hc : zldok a c = true) (hj : 0 ≤ j ∧ j < N) (hv : ztag (if a = 4 then 2 else if a = 1 then 1 else 0) (zM w H o j) = v) (K : zga w d y q ls (v :: st) H Q) : zga w d y pc ls (zI j :: zR o :: st) H Q := by
  subst hq
  refine ga_step hp hf rfl rfl ?_ K
  rw [zstep_eq (f := zs_ald) rfl]
  simp only [zs_ald, hsh]
  rw [if_pos ⟨hc, hj⟩, ← hv]; rfl
theorem ga_iast {o j x : Int} {N : Nat} (hp : zprog.getD y [] = l) (hf : l.getD pc none = some (22, n, 0, b, k, e)) (hq : pc + n = q) (hsh : zsh (zS w H) o = some (100, N)) (ho : 32 ≤ o) (hx : zfx o j = none) (hj : 0 ≤ j ∧ j < N) (K : zga w d y q ls st (zup H o j x) Q) : zga w d y pc ls (zI x :: zI j :: zR o :: st) H Q := by
  subst hq
  refine ga_stepU hp hf rfl rfl ?_ ⟨rfl, rfl⟩ (zmk_up ho hx) K
  rw [zstep_eq (f := zs_xast) rfl, show zs_xast (22, n, 0, b, k, e) pc = zs_iast (22, n, 0, b, k, e) pc from rfl]
  simp only [zs_iast, hsh]
  rw [if_pos ⟨trivial, hj.1, hj.2, ho⟩]
  show some (_, _, _, w.1, zSHx w.2.2, zup (zM w H) o j x) = _
  rw [zM_up ho hx]; rfl
theorem ga_bast {o j x : Int} {N : Nat} (hp : zprog.getD y [] = l) (hf : l.getD pc none = some (22, n, 2, b, k, e)) (hq : pc + n = q) (hsh : zsh (zS w H) o = some (102, N)) (ho : 32 ≤ o) (hx : zfx o j = none) (hj : 0 ≤ j ∧ j < N) (K : zga w d y q ls st (zup H o j (zi8 x)) Q) : zga w d y pc ls (zI x :: zI j :: zR o :: st) H Q := by
  subst hq
  refine ga_stepU hp hf rfl rfl ?_ ⟨rfl, rfl⟩ (zmk_up ho hx) K
  rw [zstep_eq (f := zs_xast) rfl, show zs_xast (22, n, 2, b, k, e) pc = zs_bast (22, n, 2, b, k, e) pc from rfl]
  simp only [zs_bast, hsh]
  rw [if_pos ⟨trivial, hj.1, hj.2, ho⟩]
  show some (_, _, _, w.1, zSHx w.2.2, zup (zM w H) o j (zi8 x)) = _
  rw [zM_up ho hx]; rfl
theorem ga_dup {v : zV} (hp : zprog.getD y [] = l) (hf : l.getD pc none = some (23, n, a, b, k, e)) (hq : pc + n = q) (hv : zcat v = 1) (K : zga w d y q ls (v :: v :: st) H Q) : zga w d y pc ls (v :: st) H Q := by
  subst hq
  refine ga_step hp hf rfl rfl ?_ K
  rw [zstep_eq (f := zs_dup) rfl]
  simp only [zs_dup]; rw [if_pos hv]
theorem ga_pop {v : zV} (hp : zprog.getD y [] = l) (hf : l.getD pc none = some (33, n, a, b, k, e)) (hq : pc + n = q) (hv : zcat v = 1) (K : zga w d y q ls st H Q) : zga w d y pc ls (v :: st) H Q := by
  subst hq
  refine ga_step hp hf rfl rfl ?_ K
  rw [zstep_eq (f := zs_pop) rfl]
  simp only [zs_pop]; rw [if_pos hv]
theorem ga_stat {v : zV} (hp : zprog.getD y [] = l) (hf : l.getD pc none = some (31, n, a, b, k, e)) (hq : pc + n = q) (hv : (if a = 0 then zR 1 else if a = 1 then zI 1 else if a = 3 then zR 26 else if a = 4 then zR 27 else if a = 5 then zR 28 else zO) = v) (K : zga w d y q ls (v :: st) H Q) : zga w d y pc ls st H Q := by
  subst hq
  refine ga_step hp hf rfl rfl ?_ K
  rw [zstep_eq (f := zs_stat) rfl]
  rw [← hv]
  simp only [zs_stat]
  split
  · rfl
  · rfl
  · rfl
  · rfl
  · rfl
  · rename_i h0 h1 h3 h4 h5
    rw [if_neg h0, if_neg h1, if_neg h3, if_neg h4, if_neg h5]
theorem ga_ldcs {v : zV} (hp : zprog.getD y [] = l) (hf : l.getD pc none = some (32, n, a, b, k, e)) (hq : pc + n = q) (ha : a < 8) (hv : zR (2 + a) = v) (K : zga w d y q ls (v :: st) H Q) : zga w d y pc ls st H Q := by
  subst hq
  refine ga_step hp hf rfl rfl ?_ K
  rw [zstep_eq (f := zs_ldcs) rfl]
  simp only [zs_ldcs]; rw [if_pos ha, ← hv]
theorem ga_mmax {x z : Int} (hp : zprog.getD y [] = l) (hf : l.getD pc none = some (37, n, a, b, k, e)) (hq : pc + n = q) (hs : (st.map zcat).sum ≤ 8) (K : zga w d y q ls (zI (if x < z then z else x) :: st) H Q) : zga w d y pc ls (zI z :: zI x :: st) H Q := by
  subst hq
  refine ga_step hp hf rfl rfl ?_ K
  rw [zstep_eq (f := zs_math 0) rfl]
  simp only [zs_math]; rw [if_pos hs]
theorem ga_mmin {x z : Int} (hp : zprog.getD y [] = l) (hf : l.getD pc none = some (38, n, a, b, k, e)) (hq : pc + n = q) (hs : (st.map zcat).sum ≤ 8) (K : zga w d y q ls (zI (if z < x then z else x) :: st) H Q) : zga w d y pc ls (zI z :: zI x :: st) H Q := by
  subst hq
  refine ga_step hp hf rfl rfl ?_ K
  rw [zstep_eq (f := zs_math 1) rfl]
  simp only [zs_math]; rw [if_pos hs]
theorem ga_ret {r : zV} (hp : zprog.getD y [] = l) (hf : l.getD pc none = some (100, n, a, b, k, e)) (hr : zret a st = some r) (K : Q r w H) : zga w d y pc ls st H Q := by
  refine ⟨1, r, w, H, ?_, ⟨rfl, rfl⟩, zmk_rfl, K⟩
  have hff : zfetch y pc = some (100, n, a, b, k, e) := by unfold zfetch; rw [hp]; exact hf
  rw [ex, hff]
  dsimp only
  rw [if_pos rfl, hr]; rfl
theorem ga_call {t : Nat} {as rest : List zV} (hp : zprog.getD y [] = l) (hf : l.getD pc none = some (101, n, t, b, k, e)) (hq : pc + n = q) (hd : 0 < d) (hst : as.reverse ++ rest = st) (hlen : as.length = k.toNat) (hsum : (rest.map zcat).sum ≤ 8) (harg : (zargs as).length ≤ zml t) (hrec : zrecv (zS w H) b t as = true) (hrf : as.all zrefok = true)
    (K : zga w (d - 1) t 0 (zentry t as) [] H (fun r w' H' => zga w' d y q ls (if r.1 = 3 then rest else r :: rest) H' Q)) : zga w d y pc ls st H Q := by
  obtain ⟨d', rfl⟩ : ∃ d', d = d' + 1 := ⟨d - 1, by omega⟩
  subst hq; subst hst
  obtain ⟨n1, r1, w1, H1, h1, hw1, hm1, n2, r2, w2, H2, h2, hw2, hm2, hQ⟩ := K
  rw [Nat.add_sub_cancel] at h1
  refine ⟨n1 + n2 + 1, r2, w2, H2, ?_, ⟨hw2.1.trans hw1.1, hw2.2.trans hw1.2⟩, zmk_tr hm1 hm2, hQ⟩
  have hff : zfetch y pc = some (101, n, t, b, k, e) := by unfold zfetch; rw [hp]; exact hf
  rw [ex, hff]
  dsimp only
  rw [if_neg (by decide), if_pos rfl]
  have hlr : as.reverse.length = k.toNat := by rw [List.length_reverse]; exact hlen
  have htake : (as.reverse ++ rest).take k.toNat = as.reverse := by rw [← hlr]; exact List.take_left' rfl
  have hdrop : (as.reverse ++ rest).drop k.toNat = rest := by rw [← hlr]; exact List.drop_left' rfl
  have hz : zcall (101, n, t, b, k, e) (as.reverse ++ rest) (zS w H) = some (as, rest) := by
    unfold zcall
    dsimp only
    rw [htake, hdrop, List.reverse_reverse, if_pos ⟨hlen, hsum, harg, hrec, hrf⟩]
  rw [hz]
  dsimp only
  rw [ex_more2 h1 (by omega : n1 ≤ n1 + n2)]
  exact ex_more2 h2 (by omega)
abbrev zQaI (K : Int → zWt → zHt → Prop) : zV → zWt → zHt → Prop := fun r w' H' => ∃ x, r = zI x ∧ K x w' H'
def zcaI (w : zWt) (d t : Nat) (as : List zV) (H : zHt) (K : Int → zWt → zHt → Prop) : Prop := zga w d t 0 (zentry t as) [] H (zQaI K)
theorem ga_callI {t : Nat} {as rest : List zV} (hp : zprog.getD y [] = l) (hf : l.getD pc none = some (101, n, t, b, k, e)) (hq : pc + n = q) (hd : 0 < d) (hst : as.reverse ++ rest = st) (hlen : as.length = k.toNat) (hsum : (rest.map zcat).sum ≤ 8) (harg : (zargs as).length ≤ zml t) (hrec : zrecv (zS w H) b t as = true) (hrf : as.all zrefok = true)
    {K : Int → zWt → zHt → Prop} (hK : zcaI w (d - 1) t as H K) (hk : ∀ x w' H', K x w' H' → zga w' d y q ls (zI x :: rest) H' Q) : zga w d y pc ls st H Q :=
  ga_call hp hf hq hd hst hlen hsum harg hrec hrf (ga_mono hK (fun r w' H' hr => by obtain ⟨x, rfl, h⟩ := hr; exact hk x w' H' h))
theorem ga_calI {t : Nat} {as rest : List zV} (hp : zprog.getD y [] = l) (hf : l.getD pc none = some (101, n, t, b, k, e)) (hq : pc + n = q) (hd : 0 < d) (hst : as.reverse ++ rest = st) (hlen : as.length = k.toNat) (hsum : (rest.map zcat).sum ≤ 8) (harg : (zargs as).length ≤ zml t) (hrec : zrecv (zS w H) b t as = true) (hrf : as.all zrefok = true)
    {K : Int → zHt → Prop} (hK : zclI w (d - 1) t as H K) (hk : ∀ x H', K x H' → zga w d y q ls (zI x :: rest) H' Q) : zga w d y pc ls st H Q :=
  ga_call hp hf hq hd hst hlen hsum harg hrec hrf (ga_go hK (fun r H' hr => by obtain ⟨x, rfl, h⟩ := hr; exact hk x H' h))
abbrev zQaL (K : Int → zWt → zHt → Prop) : zV → zWt → zHt → Prop := fun r w' H' => ∃ x, r = zL x ∧ K x w' H'
def zcaL (w : zWt) (d t : Nat) (as : List zV) (H : zHt) (K : Int → zWt → zHt → Prop) : Prop := zga w d t 0 (zentry t as) [] H (zQaL K)
theorem ga_callL {t : Nat} {as rest : List zV} (hp : zprog.getD y [] = l) (hf : l.getD pc none = some (101, n, t, b, k, e)) (hq : pc + n = q) (hd : 0 < d) (hst : as.reverse ++ rest = st) (hlen : as.length = k.toNat) (hsum : (rest.map zcat).sum ≤ 8) (harg : (zargs as).length ≤ zml t) (hrec : zrecv (zS w H) b t as = true) (hrf : as.all zrefok = true)
    {K : Int → zWt → zHt → Prop} (hK : zcaL w (d - 1) t as H K) (hk : ∀ x w' H', K x w' H' → zga w' d y q ls (zL x :: rest) H' Q) : zga w d y pc ls st H Q :=
  ga_call hp hf hq hd hst hlen hsum harg hrec hrf (ga_mono hK (fun r w' H' hr => by obtain ⟨x, rfl, h⟩ := hr; exact hk x w' H' h))
theorem ga_calL {t : Nat} {as rest : List zV} (hp : zprog.getD y [] = l) (hf : l.getD pc none = some (101, n, t, b, k, e)) (hq : pc + n = q) (hd : 0 < d) (hst : as.reverse ++ rest = st) (hlen : as.length = k.toNat) (hsum : (rest.map zcat).sum ≤ 8) (harg : (zargs as).length ≤ zml t) (hrec : zrecv (zS w H) b t as = true) (hrf : as.all zrefok = true)
    {K : Int → zHt → Prop} (hK : zclL w (d - 1) t as H K) (hk : ∀ x H', K x H' → zga w d y q ls (zL x :: rest) H' Q) : zga w d y pc ls st H Q :=
  ga_call hp hf hq hd hst hlen hsum harg hrec hrf (ga_go hK (fun r H' hr => by obtain ⟨x, rfl, h⟩ := hr; exact hk x H' h))
abbrev zQaR (K : Int → zWt → zHt → Prop) : zV → zWt → zHt → Prop := fun r w' H' => ∃ x, r = zR x ∧ K x w' H'
def zcaR (w : zWt) (d t : Nat) (as : List zV) (H : zHt) (K : Int → zWt → zHt → Prop) : Prop := zga w d t 0 (zentry t as) [] H (zQaR K)
theorem ga_callR {t : Nat} {as rest : List zV} (hp : zprog.getD y [] = l) (hf : l.getD pc none = some (101, n, t, b, k, e)) (hq : pc + n = q) (hd : 0 < d) (hst : as.reverse ++ rest = st) (hlen : as.length = k.toNat) (hsum : (rest.map zcat).sum ≤ 8) (harg : (zargs as).length ≤ zml t) (hrec : zrecv (zS w H) b t as = true) (hrf : as.all zrefok = true)
    {K : Int → zWt → zHt → Prop} (hK : zcaR w (d - 1) t as H K) (hk : ∀ x w' H', K x w' H' → zga w' d y q ls (zR x :: rest) H' Q) : zga w d y pc ls st H Q :=
  ga_call hp hf hq hd hst hlen hsum harg hrec hrf (ga_mono hK (fun r w' H' hr => by obtain ⟨x, rfl, h⟩ := hr; exact hk x w' H' h))
theorem ga_calR {t : Nat} {as rest : List zV} (hp : zprog.getD y [] = l) (hf : l.getD pc none = some (101, n, t, b, k, e)) (hq : pc + n = q) (hd : 0 < d) (hst : as.reverse ++ rest = st) (hlen : as.length = k.toNat) (hsum : (rest.map zcat).sum ≤ 8) (harg : (zargs as).length ≤ zml t) (hrec : zrecv (zS w H) b t as = true) (hrf : as.all zrefok = true)
    {K : Int → zHt → Prop} (hK : zclR w (d - 1) t as H K) (hk : ∀ x H', K x H' → zga w d y q ls (zR x :: rest) H' Q) : zga w d y pc ls st H Q :=
  ga_call hp hf hq hd hst hlen hsum harg hrec hrf (ga_go hK (fun r H' hr => by obtain ⟨x, rfl, h⟩ := hr; exact hk x H' h))
abbrev zQaV (K : zWt → zHt → Prop) : zV → zWt → zHt → Prop := fun r w' H' => r = zJ ∧ K w' H'
def zcaV (w : zWt) (d t : Nat) (as : List zV) (H : zHt) (K : zWt → zHt → Prop) : Prop := zga w d t 0 (zentry t as) [] H (zQaV K)
theorem ga_callV {t : Nat} {as rest : List zV} (hp : zprog.getD y [] = l) (hf : l.getD pc none = some (101, n, t, b, k, e)) (hq : pc + n = q) (hd : 0 < d) (hst : as.reverse ++ rest = st) (hlen : as.length = k.toNat) (hsum : (rest.map zcat).sum ≤ 8) (harg : (zargs as).length ≤ zml t) (hrec : zrecv (zS w H) b t as = true) (hrf : as.all zrefok = true)
    {K : zWt → zHt → Prop} (hK : zcaV w (d - 1) t as H K) (hk : ∀ w' H', K w' H' → zga w' d y q ls rest H' Q) : zga w d y pc ls st H Q :=
  ga_call hp hf hq hd hst hlen hsum harg hrec hrf (ga_mono hK (fun r w' H' hr => by obtain ⟨rfl, h⟩ := hr; exact hk w' H' h))
theorem ga_calV {t : Nat} {as rest : List zV} (hp : zprog.getD y [] = l) (hf : l.getD pc none = some (101, n, t, b, k, e)) (hq : pc + n = q) (hd : 0 < d) (hst : as.reverse ++ rest = st) (hlen : as.length = k.toNat) (hsum : (rest.map zcat).sum ≤ 8) (harg : (zargs as).length ≤ zml t) (hrec : zrecv (zS w H) b t as = true) (hrf : as.all zrefok = true)
    {K : zHt → Prop} (hK : zclV w (d - 1) t as H K) (hk : ∀ H', K H' → zga w d y q ls rest H' Q) : zga w d y pc ls st H Q :=
  ga_call hp hf hq hd hst hlen hsum harg hrec hrf (ga_go hK (fun r H' hr => by obtain ⟨rfl, h⟩ := hr; exact hk H' h))
theorem ga_null (hp : zprog.getD y [] = l) (hf : l.getD pc none = some (40, n, a, b, k, e)) (hq : pc + n = q) (K : zga w d y q ls (zR (-1) :: st) H Q) : zga w d y pc ls st H Q := by
  subst hq; exact ga_step hp hf rfl rfl rfl K
theorem ga_dupx {v u : zV} (hp : zprog.getD y [] = l) (hf : l.getD pc none = some (41, n, a, b, k, e)) (hq : pc + n = q) (hv : zcat v = 1 ∧ zcat u = 1) (K : zga w d y q ls (v :: u :: v :: st) H Q) : zga w d y pc ls (v :: u :: st) H Q := by
  subst hq
  refine ga_step hp hf rfl rfl ?_ K
  rw [zstep_eq (f := zs_dupx) rfl]
  simp only [zs_dupx]; rw [if_pos hv]
theorem ga_nonnull {x : Int} (hp : zprog.getD y [] = l) (hf : l.getD pc none = some (43, n, a, b, k, e)) (hx : 0 ≤ x) (K : zga w d y b ls st H Q) : zga w d y pc ls (zR x :: st) H Q := by
  refine ga_step hp hf rfl rfl ?_ K
  rw [zstep_eq (f := zs_nonnull) rfl]
  simp only [zs_nonnull]; rw [if_neg (by omega)]
theorem ga_obj {o : Int} (hp : zprog.getD y [] = l) (hf : l.getD pc none = some (34, n, a, b, k, e)) (hq : pc + n = q) (ho : 0 ≤ o) (hs : (st.map zcat).sum ≤ 8) (K : zga w d y q ls st H Q) : zga w d y pc ls (zR o :: st) H Q := by
  subst hq
  refine ga_step hp hf rfl rfl ?_ K
  rw [zstep_eq (f := zs_obj) rfl]
  simp only [zs_obj]; rw [if_pos ⟨ho, hs⟩]
theorem ga_getS {o : Int} {v : zV} {c N : Nat} (hp : zprog.getD y [] = l) (hf : l.getD pc none = some (18, n, a, b, k, e)) (hq : pc + n = q) (hs : zSh w o c N) (hc : c = a ∧ b < N) (hv : ztag (zft a b) (H o b) = v) (K : zga w d y q ls (v :: st) H Q) : zga w d y pc ls (zR o :: st) H Q :=
  ga_get hp hf hq hs.sh ⟨hc.1, hc.2, hs.ge⟩ (by rw [zM81 hs.1]; exact hv) K
theorem ga_putS {o : Int} {v : zV} {c N : Nat} (hp : zprog.getD y [] = l) (hf : l.getD pc none = some (19, n, a, b, k, e)) (hq : pc + n = q) (hs : zSh w o c N) (hc : c = a ∧ b < N) (hv : zokv (zft a b) v = true) (K : zga w d y q ls st (zup H o b v.2) Q) : zga w d y pc ls (v :: zR o :: st) H Q :=
  ga_put hp hf hq hs.sh ⟨hc.1, hc.2, hs.ge⟩ (zfx81 hs.1) hv K
theorem ga_lenS {o : Int} {c N : Nat} (hp : zprog.getD y [] = l) (hf : l.getD pc none = some (20, n, a, b, k, e)) (hq : pc + n = q) (hs : zSh w o c N) (hc : 91 ≤ c) (K : zga w d y q ls (zI N :: st) H Q) : zga w d y pc ls (zR o :: st) H Q :=
  ga_len hp hf hq hs.sh hc K
theorem ga_lenB {o : Int} (hp : zprog.getD y [] = l) (hf : l.getD pc none = some (20, n, a, b, k, e)) (hq : pc + n = q) (hs : zIsB w o) (K : zga w d y q ls (zI (zsz w o) :: st) H Q) : zga w d y pc ls (zR o :: st) H Q := by
  rcases hs with h | h
  · exact ga_len hp hf hq h.sh (by decide) K
  · exact ga_len hp hf hq (c := 91) h.2 (by decide) K
theorem ga_aldS {o j : Int} {c N : Nat} {v : zV} (hp : zprog.getD y [] = l) (hf : l.getD pc none = some (21, n, a, b, k, e)) (hq : pc + n = q) (hs : zSh w o c N) (hc : zldok a c = true) (hj : 0 ≤ j ∧ j < N) (hv : ztag (if a = 4 then 2 else if a = 1 then 1 else 0) (H o j) = v) (K : zga w d y q ls (v :: st) H Q) : zga w d y pc ls (zI j :: zR o :: st) H Q :=
  ga_ald hp hf hq hs.sh hc hj (by rw [zM81 hs.1]; exact hv) K
theorem ga_iastS {o j x : Int} {N : Nat} (hp : zprog.getD y [] = l) (hf : l.getD pc none = some (22, n, 0, b, k, e)) (hq : pc + n = q) (hs : zSh w o 100 N) (hj : 0 ≤ j ∧ j < N) (K : zga w d y q ls st (zup H o j x) Q) : zga w d y pc ls (zI x :: zI j :: zR o :: st) H Q :=
  ga_iast hp hf hq hs.sh hs.ge (zfx81 hs.1) hj K
theorem ga_bastS {o j x : Int} {N : Nat} (hp : zprog.getD y [] = l) (hf : l.getD pc none = some (22, n, 2, b, k, e)) (hq : pc + n = q) (hs : zSh w o 102 N) (hj : 0 ≤ j ∧ j < N) (K : zga w d y q ls st (zup H o j (zi8 x)) Q) : zga w d y pc ls (zI x :: zI j :: zR o :: st) H Q :=
  ga_bast hp hf hq hs.sh hs.ge (zfx81 hs.1) hj K
theorem ga_sgetV {s : Int} (hp : zprog.getD y [] = l) (hf : l.getD pc none = some (35, n, 0, b, k, e)) (hq : pc + n = q) (hs : zIsT w s) (K : zga w d y q ls (zR (zTv H s) :: st) H Q) : zga w d y pc ls (zR s :: st) H Q := by
  subst hq
  rcases hs with h | h | h
  · have e1 : zTv H s = s + 8 := if_pos h.2
    rw [e1] at K
    refine ga_step hp hf rfl rfl ?_ K
    rw [zstep_eq (f := zs_sget) rfl]
    exact if_pos h
  · have e1 : zTv H s = s + 4 := (if_neg (by omega)).trans (if_pos h.2)
    rw [e1] at K
    refine ga_step hp hf rfl rfl ?_ K
    rw [zstep_eq (f := zs_sget) rfl]
    exact (if_neg (by omega)).trans (if_pos h)
  · have h1 := h.1
    have e1 : zTv H s = H s 0 := (if_neg (by omega)).trans (if_neg (by omega))
    rw [e1] at K
    refine ga_step hp hf rfl rfl ?_ K
    rw [zstep_eq (f := zs_sget) rfl]
    refine (if_neg (by omega)).trans ((if_neg (by omega)).trans ?_)
    rw [h.sh]
    refine (if_pos ⟨rfl, rfl, h.ge⟩).trans ?_
    show some (_, _, zR (zM w H s 0) :: _, _) = _
    rw [zM81 h1]
theorem ga_sgetC {s : Int} (hp : zprog.getD y [] = l) (hf : l.getD pc none = some (35, n, 1, b, k, e)) (hq : pc + n = q) (hs : zIsT w s) (K : zga w d y q ls (zI (zTc H s) :: st) H Q) : zga w d y pc ls (zR s :: st) H Q := by
  subst hq
  rcases hs with h | h | h
  · have e1 : zTc H s = 0 := if_pos (by omega)
    rw [e1] at K
    refine ga_step hp hf rfl rfl ?_ K
    rw [zstep_eq (f := zs_sget) rfl]
    exact if_pos h
  · have e1 : zTc H s = 0 := if_pos (by omega)
    rw [e1] at K
    refine ga_step hp hf rfl rfl ?_ K
    rw [zstep_eq (f := zs_sget) rfl]
    exact (if_neg (by omega)).trans (if_pos h)
  · have h1 := h.1
    have e1 : zTc H s = H s 1 := if_neg (by omega)
    rw [e1] at K
    refine ga_step hp hf rfl rfl ?_ K
    rw [zstep_eq (f := zs_sget) rfl]
    refine (if_neg (by omega)).trans ((if_neg (by omega)).trans ?_)
    rw [h.sh]
    refine (if_pos ⟨rfl, rfl, h.ge⟩).trans ?_
    show some (_, _, zI (zM w H s 1) :: _, _) = _
    rw [zM81 h1]
theorem ga_newa {x : Int} (hp : zprog.getD y [] = l) (hf : l.getD pc none = some (25, n, a, b, k, e)) (hq : pc + n = q) (hx : 0 ≤ x ∧ x ≤ 100000) (ha : a < 3) (K : zga (zwp w (100 + a) x.toNat) d y q ls (zR (zNc w) :: st) (znew H (zNc w) (fun _ => 0)) Q) : zga w d y pc ls (zI x :: st) H Q := by
  subst hq
  refine ga_stepU hp hf rfl rfl ?_ (w' := zwp w (100 + a) x.toNat) ⟨rfl, rfl⟩ (zmk_new (by unfold zNc; omega)) K
  rw [zstep_eq (f := zs_newa) rfl]
  simp only [zs_newa]
  rw [if_pos ⟨hx.1, hx.2, ha⟩]
  have e1 : (32 : Int) + ((zS w H).2.1.length : Int) = zNc w := by
    show (32 : Int) + ((zSHx w.2.2).length : Int) = _
    rw [zSHx_len]; unfold zNc; omega
  rw [e1]
  show some (_, _, _, w.1, zSHx w.2.2 ++ [(100 + a, x.toNat)], znew (zM w H) (zNc w) _) = _
  rw [zM_new (w := w) (w' := zwp w (100 + a) x.toNat) (by unfold zNc; omega) rfl]; rfl
theorem ga_new (hp : zprog.getD y [] = l) (hf : l.getD pc none = some (27, n, a, b, k, e)) (hq : pc + n = q) (ha : a < 8) (K : zga (zwp w a (znf.getD a 0)) d y q ls (zR (zNc w) :: st) (znew H (zNc w) (fun j => if zft a j.toNat = 2 then -1 else 0)) Q) : zga w d y pc ls st H Q := by
  subst hq
  refine ga_stepU hp hf rfl rfl ?_ (w' := zwp w a (znf.getD a 0)) ⟨rfl, rfl⟩ (zmk_new (by unfold zNc; omega)) K
  rw [zstep_eq (f := zs_new) rfl]
  simp only [zs_new]
  rw [if_pos ha]
  have e1 : (32 : Int) + ((zS w H).2.1.length : Int) = zNc w := by
    show (32 : Int) + ((zSHx w.2.2).length : Int) = _
    rw [zSHx_len]; unfold zNc; omega
  rw [e1]
  show some (_, _, _, w.1, zSHx w.2.2 ++ [(a, znf.getD a 0)], znew (zM w H) (zNc w) _) = _
  rw [zM_new (w := w) (w' := zwp w a (znf.getD a 0)) (by unfold zNc; omega) rfl]; rfl
theorem ga_acopy {m dp o sp v : Int} (hp : zprog.getD y [] = l) (hf : l.getD pc none = some (42, n, a, b, k, e)) (hq : pc + n = q) (hv : zIsB w v) (ho : zSh w o 102 (zsz w o)) (hc : 0 ≤ sp ∧ 0 ≤ dp ∧ 0 ≤ m ∧ sp + m ≤ zsz w v ∧ dp + m ≤ zsz w o) (h8 : ∀ j : Nat, (j : Int) < m → zb8 (zM w H v (sp + j)) = true) (K : zga w d y q ls [] (zcpy H o dp m (fun j => zM w H v (sp + j))) Q) : zga w d y pc ls [zI m, zI dp, zR o, zI sp, zR v] H Q := by
  subst hq
  refine ga_stepU hp hf rfl rfl ?_ ⟨rfl, rfl⟩ (zmk_cpy ho.1) K
  rw [zstep_eq (f := zs_acopy) rfl]
  simp only [zs_acopy]
  obtain ⟨c1, e1, hc1⟩ : ∃ c1, zsh (zS w H) v = some (c1, zsz w v) ∧ ((c1 = 102 ∧ 32 ≤ v) ∨ c1 = 91) := by
    rcases hv with h | h
    · exact ⟨102, h.sh, Or.inl ⟨rfl, h.ge⟩⟩
    · exact ⟨91, h.2, Or.inr rfl⟩
  rw [e1, ho.sh]
  dsimp only
  rw [if_pos ⟨hc1, rfl, ho.ge, hc.1, hc.2.1, hc.2.2.1, hc.2.2.2.1, hc.2.2.2.2, List.all_eq_true.mpr (fun j hj => h8 j (by have := List.mem_range.mp hj; omega))⟩]
  show some (_, _, _, w.1, zSHx w.2.2, zcpy (zM w H) o dp m _) = _
  rw [zM_cpy ho.1]; rfl
theorem ga_clone {o : Int} {N : Nat} (hp : zprog.getD y [] = l) (hf : l.getD pc none = some (44, n, a, b, k, e)) (hq : pc + n = q) (ho : zSh w o 102 N) (hs : (st.map zcat).sum ≤ 8) (h8 : ∀ j : Nat, j < N → zb8 (H o j) = true) (K : zga (zwp w 102 N) d y q ls (zR (zNc w) :: st) (znew H (zNc w) (H o)) Q) : zga w d y pc ls (zR o :: st) H Q := by
  subst hq
  refine ga_stepU hp hf rfl rfl ?_ (w' := zwp w 102 N) ⟨rfl, rfl⟩ (zmk_new (by unfold zNc; omega)) K
  rw [zstep_eq (f := zs_clone) rfl]
  simp only [zs_clone]
  rw [ho.sh]
  dsimp only
  have eM : (zS w H).2.2 o = H o := funext fun j => zM81 ho.1
  rw [eM, if_pos ⟨rfl, ho.ge, hs, List.all_eq_true.mpr (fun j hj => h8 j (List.mem_range.mp hj))⟩]
  have e1 : (32 : Int) + ((zS w H).2.1.length : Int) = zNc w := by
    show (32 : Int) + ((zSHx w.2.2).length : Int) = _
    rw [zSHx_len]; unfold zNc; omega
  rw [e1]
  show some (_, _, _, w.1, zSHx w.2.2 ++ [(102, N)], znew (zM w H) (zNc w) _) = _
  rw [zM_new (w := w) (w' := zwp w 102 N) (by unfold zNc; omega) rfl]; rfl
theorem ga_cast {o : Int} {N : Nat} (hp : zprog.getD y [] = l) (hf : l.getD pc none = some (45, n, a, b, k, e)) (hq : pc + n = q) (ho : zSh w o 102 N) (K : zga w d y q ls (zR o :: st) H Q) : zga w d y pc ls (zR o :: st) H Q := by
  subst hq
  refine ga_step hp hf rfl rfl ?_ K
  rw [zstep_eq (f := zs_cast) rfl]
  simp only [zs_cast]
  rw [ho.sh]
  dsimp only
  rw [if_pos ⟨rfl, ho.ge⟩]
end ZA
theorem zcaI_mono {w : zWt} {d t : Nat} {as : List zV} {H : zHt} {K K' : Int → zWt → zHt → Prop} (h : zcaI w d t as H K) (hk : ∀ x w' H', K x w' H' → K' x w' H') : zcaI w d t as H K' := ga_mono h (fun r w' H' q => by obtain ⟨x, e, q⟩ := q; exact ⟨x, e, hk _ _ _ q⟩)
theorem zcaR_mono {w : zWt} {d t : Nat} {as : List zV} {H : zHt} {K K' : Int → zWt → zHt → Prop} (h : zcaR w d t as H K) (hk : ∀ x w' H', K x w' H' → K' x w' H') : zcaR w d t as H K' := ga_mono h (fun r w' H' q => by obtain ⟨x, e, q⟩ := q; exact ⟨x, e, hk _ _ _ q⟩)
theorem zcaV_mono {w : zWt} {d t : Nat} {as : List zV} {H : zHt} {K K' : zWt → zHt → Prop} (h : zcaV w d t as H K) (hk : ∀ w' H', K w' H' → K' w' H') : zcaV w d t as H K' := ga_mono h (fun r w' H' q => by obtain ⟨e, q⟩ := q; exact ⟨e, hk _ _ q⟩)
