/-! the start: rules for any state, and the run of the two constructors -/
def zru (d y pc : Nat) (ls st : List zV) (S : zHp) (Q : zV → zHp → Prop) : Prop := ∃ (n : Nat) (r : zV) (S' : zHp), ex n d y pc ls st S = some (r, S') ∧ Q r S'
section ZH
variable {d y pc q : Nat} {ls ls' st : List zV} {Q : zV → zHp → Prop} {l : List (Option zC)} {n a b : Nat} {k : Int} {e : List Int} {L : Nat} {sh sh' : List (Nat × Nat)} {H : zHt}
theorem h_step {i : zC} {st' : List zV} {S S' : zHp} (hp : zprog.getD y [] = l) (hf : l.getD pc none = some i) (h0 : Nat.beq i.1 100 = false) (h1 : Nat.beq i.1 101 = false) (hs : zstep i pc ls st S = some (q, ls', st', S')) (K : zru d y q ls' st' S' Q) : zru d y pc ls st S Q := by
  obtain ⟨n, r, S2, h, hq⟩ := K
  refine ⟨n + 1, r, S2, ?_, hq⟩
  have hff : zfetch y pc = some i := by unfold zfetch; rw [hp]; exact hf
  rw [ex, hff]
  dsimp only
  rw [if_neg (Nat.ne_of_beq_eq_false h0), if_neg (Nat.ne_of_beq_eq_false h1), hs]
  exact h
theorem h_ic {S : zHp} (hp : zprog.getD y [] = l) (hf : l.getD pc none = some (1, n, a, b, k, e)) (hq : pc + n = q) (K : zru d y q ls (zI k :: st) S Q) : zru d y pc ls st S Q := by
  subst hq; exact h_step hp hf rfl rfl rfl K
theorem h_lc {S : zHp} (hp : zprog.getD y [] = l) (hf : l.getD pc none = some (2, n, a, b, k, e)) (hq : pc + n = q) (K : zru d y q ls (zL k :: st) S Q) : zru d y pc ls st S Q := by
  subst hq; exact h_step hp hf rfl rfl rfl K
theorem h_il {S : zHp} {x : Int} (hp : zprog.getD y [] = l) (hf : l.getD pc none = some (3, n, a, b, k, e)) (hq : pc + n = q) (hl : ls[a]? = some (zI x)) (K : zru d y q ls (zI x :: st) S Q) : zru d y pc ls st S Q := by
  subst hq
  refine h_step hp hf rfl rfl ?_ K
  rw [zstep_eq (f := zs_iload) rfl]
  simp only [zs_iload, hl]
theorem h_al {S : zHp} {x : Int} (hp : zprog.getD y [] = l) (hf : l.getD pc none = some (5, n, a, b, k, e)) (hq : pc + n = q) (hl : ls[a]? = some (zR x)) (h0 : 0 ≤ x) (K : zru d y q ls (zR x :: st) S Q) : zru d y pc ls st S Q := by
  subst hq
  refine h_step hp hf rfl rfl ?_ K
  rw [zstep_eq (f := zs_aload) rfl]
  simp only [zs_aload, hl]
  rw [if_neg (by omega)]
theorem h_is {S : zHp} {x : Int} (hp : zprog.getD y [] = l) (hf : l.getD pc none = some (6, n, a, b, k, e)) (hq : pc + n = q) (hlt : a < ls.length) (hz : zset1 ls a (zI x) = ls') (K : zru d y q ls' st S Q) : zru d y pc ls (zI x :: st) S Q := by
  subst hq; subst hz
  refine h_step hp hf rfl rfl ?_ K
  rw [zstep_eq (f := zs_istore) rfl]
  simp only [zs_istore]
  rw [if_pos hlt]
theorem h_as {S : zHp} {x : Int} (hp : zprog.getD y [] = l) (hf : l.getD pc none = some (8, n, a, b, k, e)) (hq : pc + n = q) (hlt : a < ls.length) (h0 : 0 ≤ x) (hz : zset1 ls a (zR x) = ls') (K : zru d y q ls' st S Q) : zru d y pc ls (zR x :: st) S Q := by
  subst hq; subst hz
  refine h_step hp hf rfl rfl ?_ K
  rw [zstep_eq (f := zs_astore) rfl]
  simp only [zs_astore]
  rw [if_neg (by omega), if_pos hlt]
theorem h_inc {S : zHp} {x z : Int} (hp : zprog.getD y [] = l) (hf : l.getD pc none = some (9, n, a, b, k, e)) (hq : pc + n = q) (hl : ls[a]? = some (zI x)) (hw : w32 (x + k) = z) (hz : zset1 ls a (zI z) = ls') (K : zru d y q ls' st S Q) : zru d y pc ls st S Q := by
  subst hq; subst hz; subst hw
  refine h_step hp hf rfl rfl ?_ K
  rw [zstep_eq (f := zs_iinc) rfl]
  simp only [zs_iinc, hl]
theorem h_icmp {S : zHp} {x z : Int} (hp : zprog.getD y [] = l) (hf : l.getD pc none = some (16, n, a, b, k, e)) (hc : (if zcond a x z = true then b else pc + n) = q) (K : zru d y q ls st S Q) : zru d y pc ls (zI z :: zI x :: st) S Q := by
  subst hc
  refine h_step hp hf rfl rfl ?_ K
  rw [zstep_eq (f := zs_icmp) rfl]
  simp only [zs_icmp]
theorem h_goto {S : zHp} (hp : zprog.getD y [] = l) (hf : l.getD pc none = some (17, n, a, b, k, e)) (K : zru d y b ls st S Q) : zru d y pc ls st S Q :=
  h_step hp hf rfl rfl rfl K
theorem h_dup {S : zHp} {v : zV} (hp : zprog.getD y [] = l) (hf : l.getD pc none = some (23, n, a, b, k, e)) (hq : pc + n = q) (hv : zcat v = 1) (K : zru d y q ls (v :: v :: st) S Q) : zru d y pc ls (v :: st) S Q := by
  subst hq
  refine h_step hp hf rfl rfl ?_ K
  rw [zstep_eq (f := zs_dup) rfl]
  simp only [zs_dup]; rw [if_pos hv]
theorem h_get {S : zHp} {o : Int} {v : zV} {c N : Nat} (hp : zprog.getD y [] = l) (hf : l.getD pc none = some (18, n, a, b, k, e)) (hq : pc + n = q) (hsh : zsh S o = some (c, N)) (hc : c = a ∧ b < N ∧ 32 ≤ o) (hv : ztag (zft a b) (S.2.2 o b) = v) (K : zru d y q ls (v :: st) S Q) : zru d y pc ls (zR o :: st) S Q := by
  subst hq
  refine h_step hp hf rfl rfl ?_ K
  rw [zstep_eq (f := zs_get) rfl]
  simp only [zs_get, hsh]
  rw [if_pos hc, ← hv]
theorem h_put {o x : Int} {v : zV} {c N : Nat} (hp : zprog.getD y [] = l) (hf : l.getD pc none = some (19, n, a, b, k, e)) (hq : pc + n = q) (hsh : zsh (L, sh, H) o = some (c, N)) (hc : c = a ∧ b < N ∧ 32 ≤ o) (hv : zokv (zft a b) v = true) (hx : v.2 = x) (K : zru d y q ls st (L, sh, zup H o b x) Q) : zru d y pc ls (v :: zR o :: st) (L, sh, H) Q := by
  subst hq; subst hx
  refine h_step hp hf rfl rfl ?_ K
  rw [zstep_eq (f := zs_put) rfl]
  simp only [zs_put, hsh]
  rw [if_pos ⟨hc.1, hc.2.1, hc.2.2, hv⟩]
theorem h_len {S : zHp} {o z : Int} {c N : Nat} (hp : zprog.getD y [] = l) (hf : l.getD pc none = some (20, n, a, b, k, e)) (hq : pc + n = q) (hsh : zsh S o = some (c, N)) (hc : 91 ≤ c) (hz : (N : Int) = z) (K : zru d y q ls (zI z :: st) S Q) : zru d y pc ls (zR o :: st) S Q := by
  subst hq; subst hz
  refine h_step hp hf rfl rfl ?_ K
  rw [zstep_eq (f := zs_alen) rfl]
  simp only [zs_alen, hsh]
  rw [if_pos hc]
theorem h_iast {o j x : Int} {N : Nat} (hp : zprog.getD y [] = l) (hf : l.getD pc none = some (22, n, 0, b, k, e)) (hq : pc + n = q) (hsh : zsh (L, sh, H) o = some (100, N)) (ho : 32 ≤ o) (hj : 0 ≤ j ∧ j < N) (K : zru d y q ls st (L, sh, zup H o j x) Q) : zru d y pc ls (zI x :: zI j :: zR o :: st) (L, sh, H) Q := by
  subst hq
  refine h_step hp hf rfl rfl ?_ K
  rw [zstep_eq (f := zs_xast) rfl, show zs_xast (22, n, 0, b, k, e) pc = zs_iast (22, n, 0, b, k, e) pc from rfl]
  simp only [zs_iast, hsh]
  rw [if_pos ⟨trivial, hj.1, hj.2, ho⟩]
theorem h_last {o j x : Int} {N : Nat} (hp : zprog.getD y [] = l) (hf : l.getD pc none = some (22, n, 1, b, k, e)) (hq : pc + n = q) (hsh : zsh (L, sh, H) o = some (101, N)) (ho : 32 ≤ o) (hj : 0 ≤ j ∧ j < N) (K : zru d y q ls st (L, sh, zup H o j x) Q) : zru d y pc ls (zL x :: zI j :: zR o :: st) (L, sh, H) Q := by
  subst hq
  refine h_step hp hf rfl rfl ?_ K
  rw [zstep_eq (f := zs_xast) rfl, show zs_xast (22, n, 1, b, k, e) pc = zs_last (22, n, 1, b, k, e) pc from rfl]
  simp only [zs_last, hsh]
  rw [if_pos ⟨trivial, hj.1, hj.2, ho⟩]
theorem h_aast {o j x : Int} {c c2 N N2 : Nat} (hp : zprog.getD y [] = l) (hf : l.getD pc none = some (22, n, 4, b, k, e)) (hq : pc + n = q) (hsh : zsh (L, sh, H) o = some (c, N)) (hs2 : zsh (L, sh, H) x = some (c2, N2)) (hc : ((c = 104 ∧ c2 = 0) ∨ (c = 105 ∧ c2 = 4)) ∧ 0 ≤ j ∧ j < N ∧ 32 ≤ o ∧ 32 ≤ x) (K : zru d y q ls st (L, sh, zup H o j x) Q) : zru d y pc ls (zR x :: zI j :: zR o :: st) (L, sh, H) Q := by
  subst hq
  refine h_step hp hf rfl rfl ?_ K
  rw [zstep_eq (f := zs_xast) rfl, show zs_xast (22, n, 4, b, k, e) pc = zs_aast (22, n, 4, b, k, e) pc from rfl]
  simp only [zs_aast, hsh, hs2]
  rw [if_pos hc]
theorem h_newa {x o : Int} (hp : zprog.getD y [] = l) (hf : l.getD pc none = some (25, n, a, b, k, e)) (hq : pc + n = q) (hx : 0 ≤ x ∧ x ≤ 100000 ∧ a < 3) (ho : 32 + (sh.length : Int) = o) (hs : sh ++ [(100 + a, x.toNat)] = sh') (K : zru d y q ls (zR o :: st) (L, sh', znew H o (fun _ => 0)) Q) : zru d y pc ls (zI x :: st) (L, sh, H) Q := by
  subst hq; subst ho; subst hs
  refine h_step hp hf rfl rfl ?_ K
  rw [zstep_eq (f := zs_newa) rfl]
  simp only [zs_newa]
  rw [if_pos hx]
theorem h_newq {x o : Int} (hp : zprog.getD y [] = l) (hf : l.getD pc none = some (26, n, a, b, k, e)) (hq : pc + n = q) (hx : 0 ≤ x ∧ x ≤ 100000 ∧ (a = 4 ∨ a = 5)) (ho : 32 + (sh.length : Int) = o) (hs : sh ++ [(100 + a, x.toNat)] = sh') (K : zru d y q ls (zR o :: st) (L, sh', znew H o (fun _ => -1)) Q) : zru d y pc ls (zI x :: st) (L, sh, H) Q := by
  subst hq; subst ho; subst hs
  refine h_step hp hf rfl rfl ?_ K
  rw [zstep_eq (f := zs_newq) rfl]
  simp only [zs_newq]
  rw [if_pos hx]
theorem h_new {o : Int} (hp : zprog.getD y [] = l) (hf : l.getD pc none = some (27, n, a, b, k, e)) (hq : pc + n = q) (hx : a < 8) (ho : 32 + (sh.length : Int) = o) (hs : sh ++ [(a, znf.getD a 0)] = sh') (K : zru d y q ls (zR o :: st) (L, sh', znew H o (fun j => if zft a j.toNat = 2 then -1 else 0)) Q) : zru d y pc ls st (L, sh, H) Q := by
  subst hq; subst ho; subst hs
  refine h_step hp hf rfl rfl ?_ K
  rw [zstep_eq (f := zs_new) rfl]
  simp only [zs_new]
  rw [if_pos hx]
theorem h_obj {S : zHp} {o : Int} (hp : zprog.getD y [] = l) (hf : l.getD pc none = some (34, n, a, b, k, e)) (hq : pc + n = q) (hx : 0 ≤ o ∧ (st.map zcat).sum ≤ 8) (K : zru d y q ls st S Q) : zru d y pc ls (zR o :: st) S Q := by
  subst hq
  refine h_step hp hf rfl rfl ?_ K
  rw [zstep_eq (f := zs_obj) rfl]
  simp only [zs_obj]
  rw [if_pos hx]
theorem h_retV {S : zHp} (hp : zprog.getD y [] = l) (hf : l.getD pc none = some (100, n, 0, b, k, e)) (K : Q zJ S) : zru d y pc ls [] S Q := by
  refine ⟨1, zJ, S, ?_, K⟩
  have hff : zfetch y pc = some (100, n, 0, b, k, e) := by unfold zfetch; rw [hp]; exact hf
  rw [ex, hff]; rfl
theorem h_callV {S : zHp} {t : Nat} {as rest : List zV} (hp : zprog.getD y [] = l) (hf : l.getD pc none = some (101, n, t, b, k, e)) (hq : pc + n = q) (hst : as.reverse ++ rest = st) (hz : zcall (101, n, t, b, k, e) st S = some (as, rest)) (hen : zentry t as = ls')
    (K : zru d t 0 ls' [] S (fun r S' => r = zJ ∧ zru (d + 1) y q ls rest S' Q)) : zru (d + 1) y pc ls st S Q := by
  subst hq; subst hen
  obtain ⟨n1, r1, S1, h1, e1, n2, r2, S2, h2, hQ⟩ := K
  subst e1
  refine ⟨n1 + n2 + 1, r2, S2, ?_, hQ⟩
  have hff : zfetch y pc = some (101, n, t, b, k, e) := by unfold zfetch; rw [hp]; exact hf
  rw [ex, hff]
  dsimp only
  rw [if_neg (by decide), if_pos rfl, hz]
  dsimp only
  rw [ex_more2 h1 (by omega : n1 ≤ n1 + n2)]
  exact ex_more2 h2 (by omega)
end ZH
theorem zpp0 : zprog.getD 0 [] = zk0 := rfl
theorem zpp1 : zprog.getD 1 [] = zk1 := rfl
theorem zpp3 : zprog.getD 3 [] = zk3 := rfl
theorem zpp4 : zprog.getD 4 [] = zk4 := rfl
theorem zpp5 : zprog.getD 5 [] = zk5 := rfl
theorem zpp6 : zprog.getD 6 [] = zk6 := rfl
theorem zpp7 : zprog.getD 7 [] = zk7 := rfl
theorem zpp8 : zprog.getD 8 [] = zk8 := rfl
def zHs1 (xs : Nat → Int32) : zHt := (zup (zup (zup (znew (zup (znew (zup (znew (znew (zup (zup (zup (zup (zup (zup (zup (zup (zup (zup (zup (znew (zup (znew (znew (znew (zH0 xs) 32 (fun j => if zft 5 j.toNat = 2 then -1 else 0)) 33 (fun j => if zft 3 j.toNat = 2 then -1 else 0)) 34 (fun _ => 0)) 33 0 34) 35 (fun _ => 0)) 33 1 35) 33 2 0) 33 3 0) 33 4 0) 33 5 0) 33 6 0) 33 7 0) 33 8 0) 33 9 0) 33 10 (-1)) 32 0 33) 36 (fun j => if zft 2 j.toNat = 2 then -1 else 0)) 37 (fun _ => 0)) 36 0 37) 38 (fun _ => 0)) 36 1 38) 39 (fun _ => 0)) 36 2 39) 36 3 0) 32 1 36)
def zHs2 (xs : Nat → Int32) : zHt := (znew (zup (zup (zup (zup (zup (zup (zup (zup (zup (zup (znew (znew (zup (zup (zup (zup (zup (zup (zup (zup (zup (zup (znew (znew (zHs1 xs) 40 (fun j => if zft 0 j.toNat = 2 then -1 else 0)) 41 (fun _ => 0)) 40 0 41) 40 1 0) 40 2 0) 40 3 0) 40 4 0) 40 1 0) 40 2 100000) 40 3 30) 40 4 0) 32 2 40) 42 (fun j => if zft 0 j.toNat = 2 then -1 else 0)) 43 (fun _ => 0)) 42 0 43) 42 1 0) 42 2 0) 42 3 0) 42 4 0) 42 1 0) 42 2 100000) 42 3 30) 42 4 0) 32 3 42) 44 (fun _ => -1))
def zHs3 (xs : Nat → Int32) : zHt := (zup (zup (zup (zup (znew (zup (znew (zup (znew (zup (zup (zup (znew (znew (zup (zup (zup (zup (zup (zup (znew (znew (zup (znew (zup (zHs2 xs) 32 4 44) 45 (fun _ => -1)) 32 5 45) 46 (fun j => if zft 4 j.toNat = 2 then -1 else 0)) 47 (fun _ => 0)) 46 0 47) 46 1 0) 46 2 3) 46 3 (-1)) 46 4 0) 32 6 46) 48 (fun j => if zft 1 j.toNat = 2 then -1 else 0)) 49 (fun _ => 0)) 48 0 49) 48 1 0) 32 7 48) 50 (fun _ => 0)) 32 8 50) 51 (fun _ => 0)) 32 9 51) 52 (fun _ => 0)) 32 10 52) 32 11 0) 32 12 (-1)) 32 13 (-1))
def zHs4 (xs : Nat → Int32) : zHt := (zup (zup (zup (zup (zup (zup (zup (zup (zup (zup (znew (znew (zup (zup (zup (zup (zup (zup (zup (zup (zup (zup (znew (znew (zup (zHs3 xs) 32 14 0) 53 (fun j => if zft 0 j.toNat = 2 then -1 else 0)) 54 (fun _ => 0)) 53 0 54) 53 1 0) 53 2 0) 53 3 0) 53 4 0) 53 1 0) 53 2 100000) 53 3 30) 53 4 0) 44 0 53) 55 (fun j => if zft 0 j.toNat = 2 then -1 else 0)) 56 (fun _ => 0)) 55 0 56) 55 1 0) 55 2 0) 55 3 0) 55 4 0) 55 1 0) 55 2 100000) 55 3 30) 55 4 0) 44 1 55)
def zHs5 (xs : Nat → Int32) : zHt := (znew (zup (zup (zup (zup (zup (zup (zup (zup (zup (zup (znew (znew (zup (zup (zup (zup (zup (zup (zup (zup (zup (zup (znew (znew (zHs4 xs) 57 (fun j => if zft 0 j.toNat = 2 then -1 else 0)) 58 (fun _ => 0)) 57 0 58) 57 1 0) 57 2 0) 57 3 0) 57 4 0) 57 1 0) 57 2 100000) 57 3 30) 57 4 0) 44 2 57) 59 (fun j => if zft 0 j.toNat = 2 then -1 else 0)) 60 (fun _ => 0)) 59 0 60) 59 1 0) 59 2 0) 59 3 0) 59 4 0) 59 1 0) 59 2 100000) 59 3 30) 59 4 0) 44 3 59) 61 (fun j => if zft 0 j.toNat = 2 then -1 else 0))
def zHs6 (xs : Nat → Int32) : zHt := (znew (znew (zup (zup (zup (zup (zup (zup (zup (zup (zup (zup (znew (znew (zup (zup (zup (zup (zup (zup (zup (zup (zup (zup (znew (zHs5 xs) 62 (fun _ => 0)) 61 0 62) 61 1 0) 61 2 0) 61 3 0) 61 4 0) 61 1 0) 61 2 100000) 61 3 30) 61 4 0) 44 4 61) 63 (fun j => if zft 0 j.toNat = 2 then -1 else 0)) 64 (fun _ => 0)) 63 0 64) 63 1 0) 63 2 0) 63 3 0) 63 4 0) 63 1 0) 63 2 100000) 63 3 30) 63 4 0) 44 5 63) 65 (fun j => if zft 0 j.toNat = 2 then -1 else 0)) 66 (fun _ => 0))
def zHs7 (xs : Nat → Int32) : zHt := (zup (znew (znew (zup (zup (zup (zup (zup (zup (zup (zup (zup (zup (znew (znew (zup (zup (zup (zup (zup (zup (zup (zup (zup (zup (zHs6 xs) 65 0 66) 65 1 0) 65 2 0) 65 3 0) 65 4 0) 65 1 0) 65 2 100000) 65 3 30) 65 4 0) 44 6 65) 67 (fun j => if zft 0 j.toNat = 2 then -1 else 0)) 68 (fun _ => 0)) 67 0 68) 67 1 0) 67 2 0) 67 3 0) 67 4 0) 67 1 0) 67 2 100000) 67 3 30) 67 4 0) 44 7 67) 69 (fun j => if zft 4 j.toNat = 2 then -1 else 0)) 70 (fun _ => 0)) 69 0 70)
def zHs8 (xs : Nat → Int32) : zHt := (zup (zup (znew (znew (zup (zup (zup (zup (zup (zup (znew (znew (zup (zup (zup (zup (zup (zup (znew (znew (zup (zup (zup (zup (zup (zHs7 xs) 69 1 0) 69 2 3) 69 3 (-1)) 69 4 0) 45 0 69) 71 (fun j => if zft 4 j.toNat = 2 then -1 else 0)) 72 (fun _ => 0)) 71 0 72) 71 1 0) 71 2 3) 71 3 (-1)) 71 4 0) 45 1 71) 73 (fun j => if zft 4 j.toNat = 2 then -1 else 0)) 74 (fun _ => 0)) 73 0 74) 73 1 0) 73 2 3) 73 3 (-1)) 73 4 0) 45 2 73) 75 (fun j => if zft 4 j.toNat = 2 then -1 else 0)) 76 (fun _ => 0)) 75 0 76) 75 1 0)
def zHs9 (xs : Nat → Int32) : zHt := (zup (zup (zup (zup (zup (zup (znew (znew (zup (zup (zup (zup (zup (zup (znew (znew (zup (zup (zup (zup (zHs8 xs) 75 2 3) 75 3 (-1)) 75 4 0) 45 3 75) 77 (fun j => if zft 4 j.toNat = 2 then -1 else 0)) 78 (fun _ => 0)) 77 0 78) 77 1 0) 77 2 3) 77 3 (-1)) 77 4 0) 45 4 77) 79 (fun j => if zft 4 j.toNat = 2 then -1 else 0)) 80 (fun _ => 0)) 79 0 80) 79 1 0) 79 2 3) 79 3 (-1)) 79 4 0) 45 5 79)
def zHs (xs : Nat → Int32) : zHt := (zHs9 xs)
set_option maxRecDepth 20000 in
set_option maxHeartbeats 8000000 in
theorem z_boot {L : Nat} {xs : Nat → Int32} {Q : zV → zHp → Prop} (K : zru 2000 0 8 [zR 0, zR 32, zJ, zJ] [] (L, zSH, zHs xs) Q) : zru 2000 0 0 [zR 0, zJ, zJ, zJ] [] (L, [], zH0 xs) Q := by
  refine h_new (o := 32) (sh' := [(5, 15)]) zpp0 rfl rfl (by decide) rfl rfl ?_
  refine h_dup zpp0 rfl rfl rfl ?_
  refine h_callV (as := [zR 32]) (rest := [zR 32]) (ls' := [zR 32, zJ]) zpp0 rfl rfl rfl rfl rfl ?_
  refine h_al zpp1 rfl rfl rfl (by decide) ?_
  refine h_obj zpp1 rfl rfl ⟨by decide, Nat.le_of_ble_eq_true rfl⟩ ?_
  refine h_al zpp1 rfl rfl rfl (by decide) ?_
  refine h_new (o := 33) (sh' := [(5, 15), (3, 11)]) zpp1 rfl rfl (by decide) rfl rfl ?_
  refine h_dup zpp1 rfl rfl rfl ?_
  refine h_callV (as := [zR 33]) (rest := [zR 33, zR 32]) (ls' := [zR 33]) zpp1 rfl rfl rfl rfl rfl ?_
  refine h_al zpp3 rfl rfl rfl (by decide) ?_
  refine h_obj zpp3 rfl rfl ⟨by decide, Nat.le_of_ble_eq_true rfl⟩ ?_
  refine h_al zpp3 rfl rfl rfl (by decide) ?_
  refine h_ic zpp3 rfl rfl ?_
  refine h_newa (o := 34) (sh' := [(5, 15), (3, 11), (100, 400)]) zpp3 rfl rfl (by decide) rfl rfl ?_
  refine h_put (x := 34) zpp3 rfl rfl rfl ⟨rfl, by decide, by decide⟩ rfl rfl ?_
  refine h_al zpp3 rfl rfl rfl (by decide) ?_
  refine h_ic zpp3 rfl rfl ?_
  refine h_newa (o := 35) (sh' := [(5, 15), (3, 11), (100, 400), (101, 6)]) zpp3 rfl rfl (by decide) rfl rfl ?_
  refine h_put (x := 35) zpp3 rfl rfl rfl ⟨rfl, by decide, by decide⟩ rfl rfl ?_
  refine h_al zpp3 rfl rfl rfl (by decide) ?_
  refine h_ic zpp3 rfl rfl ?_
  refine h_put (x := 0) zpp3 rfl rfl rfl ⟨rfl, by decide, by decide⟩ rfl rfl ?_
  refine h_al zpp3 rfl rfl rfl (by decide) ?_
  refine h_ic zpp3 rfl rfl ?_
  refine h_put (x := 0) zpp3 rfl rfl rfl ⟨rfl, by decide, by decide⟩ rfl rfl ?_
  refine h_al zpp3 rfl rfl rfl (by decide) ?_
  refine h_ic zpp3 rfl rfl ?_
  refine h_put (x := 0) zpp3 rfl rfl rfl ⟨rfl, by decide, by decide⟩ rfl rfl ?_
  refine h_al zpp3 rfl rfl rfl (by decide) ?_
  refine h_ic zpp3 rfl rfl ?_
  refine h_put (x := 0) zpp3 rfl rfl rfl ⟨rfl, by decide, by decide⟩ rfl rfl ?_
  refine h_al zpp3 rfl rfl rfl (by decide) ?_
  refine h_lc zpp3 rfl rfl ?_
  refine h_put (x := 0) zpp3 rfl rfl rfl ⟨rfl, by decide, by decide⟩ rfl rfl ?_
  refine h_al zpp3 rfl rfl rfl (by decide) ?_
  refine h_ic zpp3 rfl rfl ?_
  refine h_put (x := 0) zpp3 rfl rfl rfl ⟨rfl, by decide, by decide⟩ rfl rfl ?_
  refine h_al zpp3 rfl rfl rfl (by decide) ?_
  refine h_ic zpp3 rfl rfl ?_
  refine h_put (x := 0) zpp3 rfl rfl rfl ⟨rfl, by decide, by decide⟩ rfl rfl ?_
  refine h_al zpp3 rfl rfl rfl (by decide) ?_
  refine h_ic zpp3 rfl rfl ?_
  refine h_put (x := 0) zpp3 rfl rfl rfl ⟨rfl, by decide, by decide⟩ rfl rfl ?_
  refine h_al zpp3 rfl rfl rfl (by decide) ?_
  refine h_ic zpp3 rfl rfl ?_
  refine h_put (x := (-1)) zpp3 rfl rfl rfl ⟨rfl, by decide, by decide⟩ rfl rfl ?_
  refine h_retV zpp3 rfl ⟨rfl, ?_⟩
  refine h_put (x := 33) zpp1 rfl rfl rfl ⟨rfl, by decide, by decide⟩ rfl rfl ?_
  refine h_al zpp1 rfl rfl rfl (by decide) ?_
  refine h_new (o := 36) (sh' := [(5, 15), (3, 11), (100, 400), (101, 6), (2, 4)]) zpp1 rfl rfl (by decide) rfl rfl ?_
  refine h_dup zpp1 rfl rfl rfl ?_
  refine h_callV (as := [zR 36]) (rest := [zR 36, zR 32]) (ls' := [zR 36]) zpp1 rfl rfl rfl rfl rfl ?_
  refine h_al zpp4 rfl rfl rfl (by decide) ?_
  refine h_obj zpp4 rfl rfl ⟨by decide, Nat.le_of_ble_eq_true rfl⟩ ?_
  refine h_al zpp4 rfl rfl rfl (by decide) ?_
  refine h_ic zpp4 rfl rfl ?_
  refine h_newa (o := 37) (sh' := [(5, 15), (3, 11), (100, 400), (101, 6), (2, 4), (100, 9)]) zpp4 rfl rfl (by decide) rfl rfl ?_
  refine h_put (x := 37) zpp4 rfl rfl rfl ⟨rfl, by decide, by decide⟩ rfl rfl ?_
  refine h_al zpp4 rfl rfl rfl (by decide) ?_
  refine h_ic zpp4 rfl rfl ?_
  refine h_newa (o := 38) (sh' := [(5, 15), (3, 11), (100, 400), (101, 6), (2, 4), (100, 9), (100, 9)]) zpp4 rfl rfl (by decide) rfl rfl ?_
  refine h_put (x := 38) zpp4 rfl rfl rfl ⟨rfl, by decide, by decide⟩ rfl rfl ?_
  refine h_al zpp4 rfl rfl rfl (by decide) ?_
  refine h_ic zpp4 rfl rfl ?_
  refine h_newa (o := 39) (sh' := [(5, 15), (3, 11), (100, 400), (101, 6), (2, 4), (100, 9), (100, 9), (100, 9)]) zpp4 rfl rfl (by decide) rfl rfl ?_
  refine h_put (x := 39) zpp4 rfl rfl rfl ⟨rfl, by decide, by decide⟩ rfl rfl ?_
  refine h_al zpp4 rfl rfl rfl (by decide) ?_
  refine h_ic zpp4 rfl rfl ?_
  refine h_put (x := 0) zpp4 rfl rfl rfl ⟨rfl, by decide, by decide⟩ rfl rfl ?_
  refine h_retV zpp4 rfl ⟨rfl, ?_⟩
  refine h_put (x := 36) zpp1 rfl rfl rfl ⟨rfl, by decide, by decide⟩ rfl rfl ?_
  refine h_al zpp1 rfl rfl rfl (by decide) ?_
  refine h_new (o := 40) (sh' := [(5, 15), (3, 11), (100, 400), (101, 6), (2, 4), (100, 9), (100, 9), (100, 9), (0, 5)]) zpp1 rfl rfl (by decide) rfl rfl ?_
  refine h_dup zpp1 rfl rfl rfl ?_
  refine h_callV (as := [zR 40]) (rest := [zR 40, zR 32]) (ls' := [zR 40]) zpp1 rfl rfl rfl rfl rfl ?_
  refine h_al zpp5 rfl rfl rfl (by decide) ?_
  refine h_obj zpp5 rfl rfl ⟨by decide, Nat.le_of_ble_eq_true rfl⟩ ?_
  refine h_al zpp5 rfl rfl rfl (by decide) ?_
  refine h_ic zpp5 rfl rfl ?_
  refine h_newa (o := 41) (sh' := [(5, 15), (3, 11), (100, 400), (101, 6), (2, 4), (100, 9), (100, 9), (100, 9), (0, 5), (100, 6)]) zpp5 rfl rfl (by decide) rfl rfl ?_
  refine h_put (x := 41) zpp5 rfl rfl rfl ⟨rfl, by decide, by decide⟩ rfl rfl ?_
  refine h_al zpp5 rfl rfl rfl (by decide) ?_
  refine h_ic zpp5 rfl rfl ?_
  refine h_put (x := 0) zpp5 rfl rfl rfl ⟨rfl, by decide, by decide⟩ rfl rfl ?_
  refine h_al zpp5 rfl rfl rfl (by decide) ?_
  refine h_ic zpp5 rfl rfl ?_
  refine h_put (x := 0) zpp5 rfl rfl rfl ⟨rfl, by decide, by decide⟩ rfl rfl ?_
  refine h_al zpp5 rfl rfl rfl (by decide) ?_
  refine h_ic zpp5 rfl rfl ?_
  refine h_put (x := 0) zpp5 rfl rfl rfl ⟨rfl, by decide, by decide⟩ rfl rfl ?_
  refine h_al zpp5 rfl rfl rfl (by decide) ?_
  refine h_ic zpp5 rfl rfl ?_
  refine h_put (x := 0) zpp5 rfl rfl rfl ⟨rfl, by decide, by decide⟩ rfl rfl ?_
  refine h_al zpp5 rfl rfl rfl (by decide) ?_
  refine h_callV (as := [zR 40]) (rest := []) (ls' := [zR 40]) zpp5 rfl rfl rfl rfl rfl ?_
  refine h_al zpp6 rfl rfl rfl (by decide) ?_
  refine h_ic zpp6 rfl rfl ?_
  refine h_put (x := 0) zpp6 rfl rfl rfl ⟨rfl, by decide, by decide⟩ rfl rfl ?_
  refine h_al zpp6 rfl rfl rfl (by decide) ?_
  refine h_ic zpp6 rfl rfl ?_
  refine h_put (x := 100000) zpp6 rfl rfl rfl ⟨rfl, by decide, by decide⟩ rfl rfl ?_
  refine h_al zpp6 rfl rfl rfl (by decide) ?_
  refine h_ic zpp6 rfl rfl ?_
  refine h_put (x := 30) zpp6 rfl rfl rfl ⟨rfl, by decide, by decide⟩ rfl rfl ?_
  refine h_al zpp6 rfl rfl rfl (by decide) ?_
  refine h_ic zpp6 rfl rfl ?_
  refine h_put (x := 0) zpp6 rfl rfl rfl ⟨rfl, by decide, by decide⟩ rfl rfl ?_
  refine h_retV zpp6 rfl ⟨rfl, ?_⟩
  refine h_retV zpp5 rfl ⟨rfl, ?_⟩
  refine h_put (x := 40) zpp1 rfl rfl rfl ⟨rfl, by decide, by decide⟩ rfl rfl ?_
  refine h_al zpp1 rfl rfl rfl (by decide) ?_
  refine h_new (o := 42) (sh' := [(5, 15), (3, 11), (100, 400), (101, 6), (2, 4), (100, 9), (100, 9), (100, 9), (0, 5), (100, 6), (0, 5)]) zpp1 rfl rfl (by decide) rfl rfl ?_
  refine h_dup zpp1 rfl rfl rfl ?_
  refine h_callV (as := [zR 42]) (rest := [zR 42, zR 32]) (ls' := [zR 42]) zpp1 rfl rfl rfl rfl rfl ?_
  refine h_al zpp5 rfl rfl rfl (by decide) ?_
  refine h_obj zpp5 rfl rfl ⟨by decide, Nat.le_of_ble_eq_true rfl⟩ ?_
  refine h_al zpp5 rfl rfl rfl (by decide) ?_
  refine h_ic zpp5 rfl rfl ?_
  refine h_newa (o := 43) (sh' := [(5, 15), (3, 11), (100, 400), (101, 6), (2, 4), (100, 9), (100, 9), (100, 9), (0, 5), (100, 6), (0, 5), (100, 6)]) zpp5 rfl rfl (by decide) rfl rfl ?_
  refine h_put (x := 43) zpp5 rfl rfl rfl ⟨rfl, by decide, by decide⟩ rfl rfl ?_
  refine h_al zpp5 rfl rfl rfl (by decide) ?_
  refine h_ic zpp5 rfl rfl ?_
  refine h_put (x := 0) zpp5 rfl rfl rfl ⟨rfl, by decide, by decide⟩ rfl rfl ?_
  refine h_al zpp5 rfl rfl rfl (by decide) ?_
  refine h_ic zpp5 rfl rfl ?_
  refine h_put (x := 0) zpp5 rfl rfl rfl ⟨rfl, by decide, by decide⟩ rfl rfl ?_
  refine h_al zpp5 rfl rfl rfl (by decide) ?_
  refine h_ic zpp5 rfl rfl ?_
  refine h_put (x := 0) zpp5 rfl rfl rfl ⟨rfl, by decide, by decide⟩ rfl rfl ?_
  refine h_al zpp5 rfl rfl rfl (by decide) ?_
  refine h_ic zpp5 rfl rfl ?_
  refine h_put (x := 0) zpp5 rfl rfl rfl ⟨rfl, by decide, by decide⟩ rfl rfl ?_
  refine h_al zpp5 rfl rfl rfl (by decide) ?_
  refine h_callV (as := [zR 42]) (rest := []) (ls' := [zR 42]) zpp5 rfl rfl rfl rfl rfl ?_
  refine h_al zpp6 rfl rfl rfl (by decide) ?_
  refine h_ic zpp6 rfl rfl ?_
  refine h_put (x := 0) zpp6 rfl rfl rfl ⟨rfl, by decide, by decide⟩ rfl rfl ?_
  refine h_al zpp6 rfl rfl rfl (by decide) ?_
  refine h_ic zpp6 rfl rfl ?_
  refine h_put (x := 100000) zpp6 rfl rfl rfl ⟨rfl, by decide, by decide⟩ rfl rfl ?_
  refine h_al zpp6 rfl rfl rfl (by decide) ?_
  refine h_ic zpp6 rfl rfl ?_
  refine h_put (x := 30) zpp6 rfl rfl rfl ⟨rfl, by decide, by decide⟩ rfl rfl ?_
  refine h_al zpp6 rfl rfl rfl (by decide) ?_
  refine h_ic zpp6 rfl rfl ?_
  refine h_put (x := 0) zpp6 rfl rfl rfl ⟨rfl, by decide, by decide⟩ rfl rfl ?_
  refine h_retV zpp6 rfl ⟨rfl, ?_⟩
  refine h_retV zpp5 rfl ⟨rfl, ?_⟩
  refine h_put (x := 42) zpp1 rfl rfl rfl ⟨rfl, by decide, by decide⟩ rfl rfl ?_
  refine h_al zpp1 rfl rfl rfl (by decide) ?_
  refine h_ic zpp1 rfl rfl ?_
  refine h_newq (o := 44) (sh' := [(5, 15), (3, 11), (100, 400), (101, 6), (2, 4), (100, 9), (100, 9), (100, 9), (0, 5), (100, 6), (0, 5), (100, 6), (104, 8)]) zpp1 rfl rfl (by decide) rfl rfl ?_
  refine h_put (x := 44) zpp1 rfl rfl rfl ⟨rfl, by decide, by decide⟩ rfl rfl ?_
  refine h_al zpp1 rfl rfl rfl (by decide) ?_
  refine h_ic zpp1 rfl rfl ?_
  refine h_newq (o := 45) (sh' := [(5, 15), (3, 11), (100, 400), (101, 6), (2, 4), (100, 9), (100, 9), (100, 9), (0, 5), (100, 6), (0, 5), (100, 6), (104, 8), (105, 6)]) zpp1 rfl rfl (by decide) rfl rfl ?_
  refine h_put (x := 45) zpp1 rfl rfl rfl ⟨rfl, by decide, by decide⟩ rfl rfl ?_
  refine h_al zpp1 rfl rfl rfl (by decide) ?_
  refine h_new (o := 46) (sh' := [(5, 15), (3, 11), (100, 400), (101, 6), (2, 4), (100, 9), (100, 9), (100, 9), (0, 5), (100, 6), (0, 5), (100, 6), (104, 8), (105, 6), (4, 5)]) zpp1 rfl rfl (by decide) rfl rfl ?_
  refine h_dup zpp1 rfl rfl rfl ?_
  refine h_callV (as := [zR 46]) (rest := [zR 46, zR 32]) (ls' := [zR 46]) zpp1 rfl rfl rfl rfl rfl ?_
  refine h_al zpp7 rfl rfl rfl (by decide) ?_
  refine h_obj zpp7 rfl rfl ⟨by decide, Nat.le_of_ble_eq_true rfl⟩ ?_
  refine h_al zpp7 rfl rfl rfl (by decide) ?_
  refine h_ic zpp7 rfl rfl ?_
  refine h_newa (o := 47) (sh' := [(5, 15), (3, 11), (100, 400), (101, 6), (2, 4), (100, 9), (100, 9), (100, 9), (0, 5), (100, 6), (0, 5), (100, 6), (104, 8), (105, 6), (4, 5), (100, 101)]) zpp7 rfl rfl (by decide) rfl rfl ?_
  refine h_put (x := 47) zpp7 rfl rfl rfl ⟨rfl, by decide, by decide⟩ rfl rfl ?_
  refine h_al zpp7 rfl rfl rfl (by decide) ?_
  refine h_ic zpp7 rfl rfl ?_
  refine h_put (x := 0) zpp7 rfl rfl rfl ⟨rfl, by decide, by decide⟩ rfl rfl ?_
  refine h_al zpp7 rfl rfl rfl (by decide) ?_
  refine h_ic zpp7 rfl rfl ?_
  refine h_put (x := 3) zpp7 rfl rfl rfl ⟨rfl, by decide, by decide⟩ rfl rfl ?_
  refine h_al zpp7 rfl rfl rfl (by decide) ?_
  refine h_ic zpp7 rfl rfl ?_
  refine h_put (x := (-1)) zpp7 rfl rfl rfl ⟨rfl, by decide, by decide⟩ rfl rfl ?_
  refine h_al zpp7 rfl rfl rfl (by decide) ?_
  refine h_ic zpp7 rfl rfl ?_
  refine h_put (x := 0) zpp7 rfl rfl rfl ⟨rfl, by decide, by decide⟩ rfl rfl ?_
  refine h_retV zpp7 rfl ⟨rfl, ?_⟩
  refine h_put (x := 46) zpp1 rfl rfl rfl ⟨rfl, by decide, by decide⟩ rfl rfl ?_
  refine h_al zpp1 rfl rfl rfl (by decide) ?_
  refine h_new (o := 48) (sh' := [(5, 15), (3, 11), (100, 400), (101, 6), (2, 4), (100, 9), (100, 9), (100, 9), (0, 5), (100, 6), (0, 5), (100, 6), (104, 8), (105, 6), (4, 5), (100, 101), (1, 2)]) zpp1 rfl rfl (by decide) rfl rfl ?_
  refine h_dup zpp1 rfl rfl rfl ?_
  refine h_callV (as := [zR 48]) (rest := [zR 48, zR 32]) (ls' := [zR 48]) zpp1 rfl rfl rfl rfl rfl ?_
  refine h_al zpp8 rfl rfl rfl (by decide) ?_
  refine h_obj zpp8 rfl rfl ⟨by decide, Nat.le_of_ble_eq_true rfl⟩ ?_
  refine h_al zpp8 rfl rfl rfl (by decide) ?_
  refine h_ic zpp8 rfl rfl ?_
  refine h_newa (o := 49) (sh' := [(5, 15), (3, 11), (100, 400), (101, 6), (2, 4), (100, 9), (100, 9), (100, 9), (0, 5), (100, 6), (0, 5), (100, 6), (104, 8), (105, 6), (4, 5), (100, 101), (1, 2), (100, 3232)]) zpp8 rfl rfl (by decide) rfl rfl ?_
  refine h_put (x := 49) zpp8 rfl rfl rfl ⟨rfl, by decide, by decide⟩ rfl rfl ?_
  refine h_al zpp8 rfl rfl rfl (by decide) ?_
  refine h_ic zpp8 rfl rfl ?_
  refine h_put (x := 0) zpp8 rfl rfl rfl ⟨rfl, by decide, by decide⟩ rfl rfl ?_
  refine h_retV zpp8 rfl ⟨rfl, ?_⟩
  refine h_put (x := 48) zpp1 rfl rfl rfl ⟨rfl, by decide, by decide⟩ rfl rfl ?_
  refine h_al zpp1 rfl rfl rfl (by decide) ?_
  refine h_ic zpp1 rfl rfl ?_
  refine h_newa (o := 50) (sh' := [(5, 15), (3, 11), (100, 400), (101, 6), (2, 4), (100, 9), (100, 9), (100, 9), (0, 5), (100, 6), (0, 5), (100, 6), (104, 8), (105, 6), (4, 5), (100, 101), (1, 2), (100, 3232), (101, 501)]) zpp1 rfl rfl (by decide) rfl rfl ?_
  refine h_put (x := 50) zpp1 rfl rfl rfl ⟨rfl, by decide, by decide⟩ rfl rfl ?_
  refine h_al zpp1 rfl rfl rfl (by decide) ?_
  refine h_ic zpp1 rfl rfl ?_
  refine h_newa (o := 51) (sh' := [(5, 15), (3, 11), (100, 400), (101, 6), (2, 4), (100, 9), (100, 9), (100, 9), (0, 5), (100, 6), (0, 5), (100, 6), (104, 8), (105, 6), (4, 5), (100, 101), (1, 2), (100, 3232), (101, 501), (100, 501)]) zpp1 rfl rfl (by decide) rfl rfl ?_
  refine h_put (x := 51) zpp1 rfl rfl rfl ⟨rfl, by decide, by decide⟩ rfl rfl ?_
  refine h_al zpp1 rfl rfl rfl (by decide) ?_
  refine h_ic zpp1 rfl rfl ?_
  refine h_newa (o := 52) (sh' := [(5, 15), (3, 11), (100, 400), (101, 6), (2, 4), (100, 9), (100, 9), (100, 9), (0, 5), (100, 6), (0, 5), (100, 6), (104, 8), (105, 6), (4, 5), (100, 101), (1, 2), (100, 3232), (101, 501), (100, 501), (101, 47)]) zpp1 rfl rfl (by decide) rfl rfl ?_
  refine h_put (x := 52) zpp1 rfl rfl rfl ⟨rfl, by decide, by decide⟩ rfl rfl ?_
  refine h_al zpp1 rfl rfl rfl (by decide) ?_
  refine h_ic zpp1 rfl rfl ?_
  refine h_put (x := 0) zpp1 rfl rfl rfl ⟨rfl, by decide, by decide⟩ rfl rfl ?_
  refine h_al zpp1 rfl rfl rfl (by decide) ?_
  refine h_ic zpp1 rfl rfl ?_
  refine h_put (x := (-1)) zpp1 rfl rfl rfl ⟨rfl, by decide, by decide⟩ rfl rfl ?_
  refine h_al zpp1 rfl rfl rfl (by decide) ?_
  refine h_ic zpp1 rfl rfl ?_
  refine h_put (x := (-1)) zpp1 rfl rfl rfl ⟨rfl, by decide, by decide⟩ rfl rfl ?_
  refine h_al zpp1 rfl rfl rfl (by decide) ?_
  refine h_ic zpp1 rfl rfl ?_
  refine h_put (x := 0) zpp1 rfl rfl rfl ⟨rfl, by decide, by decide⟩ rfl rfl ?_
  refine h_ic zpp1 rfl rfl ?_
  refine h_is (ls' := [zR 32, zI 0]) zpp1 rfl rfl (Nat.le_of_ble_eq_true rfl) rfl ?_
  refine h_il zpp1 rfl rfl rfl ?_
  refine h_al zpp1 rfl rfl rfl (by decide) ?_
  refine h_get (v := zR 44) zpp1 rfl rfl rfl ⟨rfl, by decide, by decide⟩ rfl ?_
  refine h_len (z := 8) zpp1 rfl rfl rfl (by decide) rfl ?_
  refine h_icmp (q := 145) zpp1 rfl rfl ?_
  refine h_al zpp1 rfl rfl rfl (by decide) ?_
  refine h_get (v := zR 44) zpp1 rfl rfl rfl ⟨rfl, by decide, by decide⟩ rfl ?_
  refine h_il zpp1 rfl rfl rfl ?_
  refine h_new (o := 53) (sh' := [(5, 15), (3, 11), (100, 400), (101, 6), (2, 4), (100, 9), (100, 9), (100, 9), (0, 5), (100, 6), (0, 5), (100, 6), (104, 8), (105, 6), (4, 5), (100, 101), (1, 2), (100, 3232), (101, 501), (100, 501), (101, 47), (0, 5)]) zpp1 rfl rfl (by decide) rfl rfl ?_
  refine h_dup zpp1 rfl rfl rfl ?_
  refine h_callV (as := [zR 53]) (rest := [zR 53, zI 0, zR 44]) (ls' := [zR 53]) zpp1 rfl rfl rfl rfl rfl ?_
  refine h_al zpp5 rfl rfl rfl (by decide) ?_
  refine h_obj zpp5 rfl rfl ⟨by decide, Nat.le_of_ble_eq_true rfl⟩ ?_
  refine h_al zpp5 rfl rfl rfl (by decide) ?_
  refine h_ic zpp5 rfl rfl ?_
  refine h_newa (o := 54) (sh' := [(5, 15), (3, 11), (100, 400), (101, 6), (2, 4), (100, 9), (100, 9), (100, 9), (0, 5), (100, 6), (0, 5), (100, 6), (104, 8), (105, 6), (4, 5), (100, 101), (1, 2), (100, 3232), (101, 501), (100, 501), (101, 47), (0, 5), (100, 6)]) zpp5 rfl rfl (by decide) rfl rfl ?_
  refine h_put (x := 54) zpp5 rfl rfl rfl ⟨rfl, by decide, by decide⟩ rfl rfl ?_
  refine h_al zpp5 rfl rfl rfl (by decide) ?_
  refine h_ic zpp5 rfl rfl ?_
  refine h_put (x := 0) zpp5 rfl rfl rfl ⟨rfl, by decide, by decide⟩ rfl rfl ?_
  refine h_al zpp5 rfl rfl rfl (by decide) ?_
  refine h_ic zpp5 rfl rfl ?_
  refine h_put (x := 0) zpp5 rfl rfl rfl ⟨rfl, by decide, by decide⟩ rfl rfl ?_
  refine h_al zpp5 rfl rfl rfl (by decide) ?_
  refine h_ic zpp5 rfl rfl ?_
  refine h_put (x := 0) zpp5 rfl rfl rfl ⟨rfl, by decide, by decide⟩ rfl rfl ?_
  refine h_al zpp5 rfl rfl rfl (by decide) ?_
  refine h_ic zpp5 rfl rfl ?_
  refine h_put (x := 0) zpp5 rfl rfl rfl ⟨rfl, by decide, by decide⟩ rfl rfl ?_
  refine h_al zpp5 rfl rfl rfl (by decide) ?_
  refine h_callV (as := [zR 53]) (rest := []) (ls' := [zR 53]) zpp5 rfl rfl rfl rfl rfl ?_
  refine h_al zpp6 rfl rfl rfl (by decide) ?_
  refine h_ic zpp6 rfl rfl ?_
  refine h_put (x := 0) zpp6 rfl rfl rfl ⟨rfl, by decide, by decide⟩ rfl rfl ?_
  refine h_al zpp6 rfl rfl rfl (by decide) ?_
  refine h_ic zpp6 rfl rfl ?_
  refine h_put (x := 100000) zpp6 rfl rfl rfl ⟨rfl, by decide, by decide⟩ rfl rfl ?_
  refine h_al zpp6 rfl rfl rfl (by decide) ?_
  refine h_ic zpp6 rfl rfl ?_
  refine h_put (x := 30) zpp6 rfl rfl rfl ⟨rfl, by decide, by decide⟩ rfl rfl ?_
  refine h_al zpp6 rfl rfl rfl (by decide) ?_
  refine h_ic zpp6 rfl rfl ?_
  refine h_put (x := 0) zpp6 rfl rfl rfl ⟨rfl, by decide, by decide⟩ rfl rfl ?_
  refine h_retV zpp6 rfl ⟨rfl, ?_⟩
  refine h_retV zpp5 rfl ⟨rfl, ?_⟩
  refine h_aast zpp1 rfl rfl rfl rfl (by decide) ?_
  refine h_inc (z := 1) (ls' := [zR 32, zI 1]) zpp1 rfl rfl rfl rfl rfl ?_
  refine h_goto zpp1 rfl ?_
  refine h_il zpp1 rfl rfl rfl ?_
  refine h_al zpp1 rfl rfl rfl (by decide) ?_
  refine h_get (v := zR 44) zpp1 rfl rfl rfl ⟨rfl, by decide, by decide⟩ rfl ?_
  refine h_len (z := 8) zpp1 rfl rfl rfl (by decide) rfl ?_
  refine h_icmp (q := 145) zpp1 rfl rfl ?_
  refine h_al zpp1 rfl rfl rfl (by decide) ?_
  refine h_get (v := zR 44) zpp1 rfl rfl rfl ⟨rfl, by decide, by decide⟩ rfl ?_
  refine h_il zpp1 rfl rfl rfl ?_
  refine h_new (o := 55) (sh' := [(5, 15), (3, 11), (100, 400), (101, 6), (2, 4), (100, 9), (100, 9), (100, 9), (0, 5), (100, 6), (0, 5), (100, 6), (104, 8), (105, 6), (4, 5), (100, 101), (1, 2), (100, 3232), (101, 501), (100, 501), (101, 47), (0, 5), (100, 6), (0, 5)]) zpp1 rfl rfl (by decide) rfl rfl ?_
  refine h_dup zpp1 rfl rfl rfl ?_
  refine h_callV (as := [zR 55]) (rest := [zR 55, zI 1, zR 44]) (ls' := [zR 55]) zpp1 rfl rfl rfl rfl rfl ?_
  refine h_al zpp5 rfl rfl rfl (by decide) ?_
  refine h_obj zpp5 rfl rfl ⟨by decide, Nat.le_of_ble_eq_true rfl⟩ ?_
  refine h_al zpp5 rfl rfl rfl (by decide) ?_
  refine h_ic zpp5 rfl rfl ?_
  refine h_newa (o := 56) (sh' := [(5, 15), (3, 11), (100, 400), (101, 6), (2, 4), (100, 9), (100, 9), (100, 9), (0, 5), (100, 6), (0, 5), (100, 6), (104, 8), (105, 6), (4, 5), (100, 101), (1, 2), (100, 3232), (101, 501), (100, 501), (101, 47), (0, 5), (100, 6), (0, 5), (100, 6)]) zpp5 rfl rfl (by decide) rfl rfl ?_
  refine h_put (x := 56) zpp5 rfl rfl rfl ⟨rfl, by decide, by decide⟩ rfl rfl ?_
  refine h_al zpp5 rfl rfl rfl (by decide) ?_
  refine h_ic zpp5 rfl rfl ?_
  refine h_put (x := 0) zpp5 rfl rfl rfl ⟨rfl, by decide, by decide⟩ rfl rfl ?_
  refine h_al zpp5 rfl rfl rfl (by decide) ?_
  refine h_ic zpp5 rfl rfl ?_
  refine h_put (x := 0) zpp5 rfl rfl rfl ⟨rfl, by decide, by decide⟩ rfl rfl ?_
  refine h_al zpp5 rfl rfl rfl (by decide) ?_
  refine h_ic zpp5 rfl rfl ?_
  refine h_put (x := 0) zpp5 rfl rfl rfl ⟨rfl, by decide, by decide⟩ rfl rfl ?_
  refine h_al zpp5 rfl rfl rfl (by decide) ?_
  refine h_ic zpp5 rfl rfl ?_
  refine h_put (x := 0) zpp5 rfl rfl rfl ⟨rfl, by decide, by decide⟩ rfl rfl ?_
  refine h_al zpp5 rfl rfl rfl (by decide) ?_
  refine h_callV (as := [zR 55]) (rest := []) (ls' := [zR 55]) zpp5 rfl rfl rfl rfl rfl ?_
  refine h_al zpp6 rfl rfl rfl (by decide) ?_
  refine h_ic zpp6 rfl rfl ?_
  refine h_put (x := 0) zpp6 rfl rfl rfl ⟨rfl, by decide, by decide⟩ rfl rfl ?_
  refine h_al zpp6 rfl rfl rfl (by decide) ?_
  refine h_ic zpp6 rfl rfl ?_
  refine h_put (x := 100000) zpp6 rfl rfl rfl ⟨rfl, by decide, by decide⟩ rfl rfl ?_
  refine h_al zpp6 rfl rfl rfl (by decide) ?_
  refine h_ic zpp6 rfl rfl ?_
  refine h_put (x := 30) zpp6 rfl rfl rfl ⟨rfl, by decide, by decide⟩ rfl rfl ?_
  refine h_al zpp6 rfl rfl rfl (by decide) ?_
  refine h_ic zpp6 rfl rfl ?_
  refine h_put (x := 0) zpp6 rfl rfl rfl ⟨rfl, by decide, by decide⟩ rfl rfl ?_
  refine h_retV zpp6 rfl ⟨rfl, ?_⟩
  refine h_retV zpp5 rfl ⟨rfl, ?_⟩
  refine h_aast zpp1 rfl rfl rfl rfl (by decide) ?_
  refine h_inc (z := 2) (ls' := [zR 32, zI 2]) zpp1 rfl rfl rfl rfl rfl ?_
  refine h_goto zpp1 rfl ?_
  refine h_il zpp1 rfl rfl rfl ?_
  refine h_al zpp1 rfl rfl rfl (by decide) ?_
  refine h_get (v := zR 44) zpp1 rfl rfl rfl ⟨rfl, by decide, by decide⟩ rfl ?_
  refine h_len (z := 8) zpp1 rfl rfl rfl (by decide) rfl ?_
  refine h_icmp (q := 145) zpp1 rfl rfl ?_
  refine h_al zpp1 rfl rfl rfl (by decide) ?_
  refine h_get (v := zR 44) zpp1 rfl rfl rfl ⟨rfl, by decide, by decide⟩ rfl ?_
  refine h_il zpp1 rfl rfl rfl ?_
  refine h_new (o := 57) (sh' := [(5, 15), (3, 11), (100, 400), (101, 6), (2, 4), (100, 9), (100, 9), (100, 9), (0, 5), (100, 6), (0, 5), (100, 6), (104, 8), (105, 6), (4, 5), (100, 101), (1, 2), (100, 3232), (101, 501), (100, 501), (101, 47), (0, 5), (100, 6), (0, 5), (100, 6), (0, 5)]) zpp1 rfl rfl (by decide) rfl rfl ?_
  refine h_dup zpp1 rfl rfl rfl ?_
  refine h_callV (as := [zR 57]) (rest := [zR 57, zI 2, zR 44]) (ls' := [zR 57]) zpp1 rfl rfl rfl rfl rfl ?_
  refine h_al zpp5 rfl rfl rfl (by decide) ?_
  refine h_obj zpp5 rfl rfl ⟨by decide, Nat.le_of_ble_eq_true rfl⟩ ?_
  refine h_al zpp5 rfl rfl rfl (by decide) ?_
  refine h_ic zpp5 rfl rfl ?_
  refine h_newa (o := 58) (sh' := [(5, 15), (3, 11), (100, 400), (101, 6), (2, 4), (100, 9), (100, 9), (100, 9), (0, 5), (100, 6), (0, 5), (100, 6), (104, 8), (105, 6), (4, 5), (100, 101), (1, 2), (100, 3232), (101, 501), (100, 501), (101, 47), (0, 5), (100, 6), (0, 5), (100, 6), (0, 5), (100, 6)]) zpp5 rfl rfl (by decide) rfl rfl ?_
  refine h_put (x := 58) zpp5 rfl rfl rfl ⟨rfl, by decide, by decide⟩ rfl rfl ?_
  refine h_al zpp5 rfl rfl rfl (by decide) ?_
  refine h_ic zpp5 rfl rfl ?_
  refine h_put (x := 0) zpp5 rfl rfl rfl ⟨rfl, by decide, by decide⟩ rfl rfl ?_
  refine h_al zpp5 rfl rfl rfl (by decide) ?_
  refine h_ic zpp5 rfl rfl ?_
  refine h_put (x := 0) zpp5 rfl rfl rfl ⟨rfl, by decide, by decide⟩ rfl rfl ?_
  refine h_al zpp5 rfl rfl rfl (by decide) ?_
  refine h_ic zpp5 rfl rfl ?_
  refine h_put (x := 0) zpp5 rfl rfl rfl ⟨rfl, by decide, by decide⟩ rfl rfl ?_
  refine h_al zpp5 rfl rfl rfl (by decide) ?_
  refine h_ic zpp5 rfl rfl ?_
  refine h_put (x := 0) zpp5 rfl rfl rfl ⟨rfl, by decide, by decide⟩ rfl rfl ?_
  refine h_al zpp5 rfl rfl rfl (by decide) ?_
  refine h_callV (as := [zR 57]) (rest := []) (ls' := [zR 57]) zpp5 rfl rfl rfl rfl rfl ?_
  refine h_al zpp6 rfl rfl rfl (by decide) ?_
  refine h_ic zpp6 rfl rfl ?_
  refine h_put (x := 0) zpp6 rfl rfl rfl ⟨rfl, by decide, by decide⟩ rfl rfl ?_
  refine h_al zpp6 rfl rfl rfl (by decide) ?_
  refine h_ic zpp6 rfl rfl ?_
  refine h_put (x := 100000) zpp6 rfl rfl rfl ⟨rfl, by decide, by decide⟩ rfl rfl ?_
  refine h_al zpp6 rfl rfl rfl (by decide) ?_
  refine h_ic zpp6 rfl rfl ?_
  refine h_put (x := 30) zpp6 rfl rfl rfl ⟨rfl, by decide, by decide⟩ rfl rfl ?_
  refine h_al zpp6 rfl rfl rfl (by decide) ?_
  refine h_ic zpp6 rfl rfl ?_
  refine h_put (x := 0) zpp6 rfl rfl rfl ⟨rfl, by decide, by decide⟩ rfl rfl ?_
  refine h_retV zpp6 rfl ⟨rfl, ?_⟩
  refine h_retV zpp5 rfl ⟨rfl, ?_⟩
  refine h_aast zpp1 rfl rfl rfl rfl (by decide) ?_
  refine h_inc (z := 3) (ls' := [zR 32, zI 3]) zpp1 rfl rfl rfl rfl rfl ?_
  refine h_goto zpp1 rfl ?_
  refine h_il zpp1 rfl rfl rfl ?_
  refine h_al zpp1 rfl rfl rfl (by decide) ?_
  refine h_get (v := zR 44) zpp1 rfl rfl rfl ⟨rfl, by decide, by decide⟩ rfl ?_
  refine h_len (z := 8) zpp1 rfl rfl rfl (by decide) rfl ?_
  refine h_icmp (q := 145) zpp1 rfl rfl ?_
  refine h_al zpp1 rfl rfl rfl (by decide) ?_
  refine h_get (v := zR 44) zpp1 rfl rfl rfl ⟨rfl, by decide, by decide⟩ rfl ?_
  refine h_il zpp1 rfl rfl rfl ?_
  refine h_new (o := 59) (sh' := [(5, 15), (3, 11), (100, 400), (101, 6), (2, 4), (100, 9), (100, 9), (100, 9), (0, 5), (100, 6), (0, 5), (100, 6), (104, 8), (105, 6), (4, 5), (100, 101), (1, 2), (100, 3232), (101, 501), (100, 501), (101, 47), (0, 5), (100, 6), (0, 5), (100, 6), (0, 5), (100, 6), (0, 5)]) zpp1 rfl rfl (by decide) rfl rfl ?_
  refine h_dup zpp1 rfl rfl rfl ?_
  refine h_callV (as := [zR 59]) (rest := [zR 59, zI 3, zR 44]) (ls' := [zR 59]) zpp1 rfl rfl rfl rfl rfl ?_
  refine h_al zpp5 rfl rfl rfl (by decide) ?_
  refine h_obj zpp5 rfl rfl ⟨by decide, Nat.le_of_ble_eq_true rfl⟩ ?_
  refine h_al zpp5 rfl rfl rfl (by decide) ?_
  refine h_ic zpp5 rfl rfl ?_
  refine h_newa (o := 60) (sh' := [(5, 15), (3, 11), (100, 400), (101, 6), (2, 4), (100, 9), (100, 9), (100, 9), (0, 5), (100, 6), (0, 5), (100, 6), (104, 8), (105, 6), (4, 5), (100, 101), (1, 2), (100, 3232), (101, 501), (100, 501), (101, 47), (0, 5), (100, 6), (0, 5), (100, 6), (0, 5), (100, 6), (0, 5), (100, 6)]) zpp5 rfl rfl (by decide) rfl rfl ?_
  refine h_put (x := 60) zpp5 rfl rfl rfl ⟨rfl, by decide, by decide⟩ rfl rfl ?_
  refine h_al zpp5 rfl rfl rfl (by decide) ?_
  refine h_ic zpp5 rfl rfl ?_
  refine h_put (x := 0) zpp5 rfl rfl rfl ⟨rfl, by decide, by decide⟩ rfl rfl ?_
  refine h_al zpp5 rfl rfl rfl (by decide) ?_
  refine h_ic zpp5 rfl rfl ?_
  refine h_put (x := 0) zpp5 rfl rfl rfl ⟨rfl, by decide, by decide⟩ rfl rfl ?_
  refine h_al zpp5 rfl rfl rfl (by decide) ?_
  refine h_ic zpp5 rfl rfl ?_
  refine h_put (x := 0) zpp5 rfl rfl rfl ⟨rfl, by decide, by decide⟩ rfl rfl ?_
  refine h_al zpp5 rfl rfl rfl (by decide) ?_
  refine h_ic zpp5 rfl rfl ?_
  refine h_put (x := 0) zpp5 rfl rfl rfl ⟨rfl, by decide, by decide⟩ rfl rfl ?_
  refine h_al zpp5 rfl rfl rfl (by decide) ?_
  refine h_callV (as := [zR 59]) (rest := []) (ls' := [zR 59]) zpp5 rfl rfl rfl rfl rfl ?_
  refine h_al zpp6 rfl rfl rfl (by decide) ?_
  refine h_ic zpp6 rfl rfl ?_
  refine h_put (x := 0) zpp6 rfl rfl rfl ⟨rfl, by decide, by decide⟩ rfl rfl ?_
  refine h_al zpp6 rfl rfl rfl (by decide) ?_
  refine h_ic zpp6 rfl rfl ?_
  refine h_put (x := 100000) zpp6 rfl rfl rfl ⟨rfl, by decide, by decide⟩ rfl rfl ?_
  refine h_al zpp6 rfl rfl rfl (by decide) ?_
  refine h_ic zpp6 rfl rfl ?_
  refine h_put (x := 30) zpp6 rfl rfl rfl ⟨rfl, by decide, by decide⟩ rfl rfl ?_
  refine h_al zpp6 rfl rfl rfl (by decide) ?_
  refine h_ic zpp6 rfl rfl ?_
  refine h_put (x := 0) zpp6 rfl rfl rfl ⟨rfl, by decide, by decide⟩ rfl rfl ?_
  refine h_retV zpp6 rfl ⟨rfl, ?_⟩
  refine h_retV zpp5 rfl ⟨rfl, ?_⟩
  refine h_aast zpp1 rfl rfl rfl rfl (by decide) ?_
  refine h_inc (z := 4) (ls' := [zR 32, zI 4]) zpp1 rfl rfl rfl rfl rfl ?_
  refine h_goto zpp1 rfl ?_
  refine h_il zpp1 rfl rfl rfl ?_
  refine h_al zpp1 rfl rfl rfl (by decide) ?_
  refine h_get (v := zR 44) zpp1 rfl rfl rfl ⟨rfl, by decide, by decide⟩ rfl ?_
  refine h_len (z := 8) zpp1 rfl rfl rfl (by decide) rfl ?_
  refine h_icmp (q := 145) zpp1 rfl rfl ?_
  refine h_al zpp1 rfl rfl rfl (by decide) ?_
  refine h_get (v := zR 44) zpp1 rfl rfl rfl ⟨rfl, by decide, by decide⟩ rfl ?_
  refine h_il zpp1 rfl rfl rfl ?_
  refine h_new (o := 61) (sh' := [(5, 15), (3, 11), (100, 400), (101, 6), (2, 4), (100, 9), (100, 9), (100, 9), (0, 5), (100, 6), (0, 5), (100, 6), (104, 8), (105, 6), (4, 5), (100, 101), (1, 2), (100, 3232), (101, 501), (100, 501), (101, 47), (0, 5), (100, 6), (0, 5), (100, 6), (0, 5), (100, 6), (0, 5), (100, 6), (0, 5)]) zpp1 rfl rfl (by decide) rfl rfl ?_
  refine h_dup zpp1 rfl rfl rfl ?_
  refine h_callV (as := [zR 61]) (rest := [zR 61, zI 4, zR 44]) (ls' := [zR 61]) zpp1 rfl rfl rfl rfl rfl ?_
  refine h_al zpp5 rfl rfl rfl (by decide) ?_
  refine h_obj zpp5 rfl rfl ⟨by decide, Nat.le_of_ble_eq_true rfl⟩ ?_
  refine h_al zpp5 rfl rfl rfl (by decide) ?_
  refine h_ic zpp5 rfl rfl ?_
  refine h_newa (o := 62) (sh' := [(5, 15), (3, 11), (100, 400), (101, 6), (2, 4), (100, 9), (100, 9), (100, 9), (0, 5), (100, 6), (0, 5), (100, 6), (104, 8), (105, 6), (4, 5), (100, 101), (1, 2), (100, 3232), (101, 501), (100, 501), (101, 47), (0, 5), (100, 6), (0, 5), (100, 6), (0, 5), (100, 6), (0, 5), (100, 6), (0, 5), (100, 6)]) zpp5 rfl rfl (by decide) rfl rfl ?_
  refine h_put (x := 62) zpp5 rfl rfl rfl ⟨rfl, by decide, by decide⟩ rfl rfl ?_
  refine h_al zpp5 rfl rfl rfl (by decide) ?_
  refine h_ic zpp5 rfl rfl ?_
  refine h_put (x := 0) zpp5 rfl rfl rfl ⟨rfl, by decide, by decide⟩ rfl rfl ?_
  refine h_al zpp5 rfl rfl rfl (by decide) ?_
  refine h_ic zpp5 rfl rfl ?_
  refine h_put (x := 0) zpp5 rfl rfl rfl ⟨rfl, by decide, by decide⟩ rfl rfl ?_
  refine h_al zpp5 rfl rfl rfl (by decide) ?_
  refine h_ic zpp5 rfl rfl ?_
  refine h_put (x := 0) zpp5 rfl rfl rfl ⟨rfl, by decide, by decide⟩ rfl rfl ?_
  refine h_al zpp5 rfl rfl rfl (by decide) ?_
  refine h_ic zpp5 rfl rfl ?_
  refine h_put (x := 0) zpp5 rfl rfl rfl ⟨rfl, by decide, by decide⟩ rfl rfl ?_
  refine h_al zpp5 rfl rfl rfl (by decide) ?_
  refine h_callV (as := [zR 61]) (rest := []) (ls' := [zR 61]) zpp5 rfl rfl rfl rfl rfl ?_
  refine h_al zpp6 rfl rfl rfl (by decide) ?_
  refine h_ic zpp6 rfl rfl ?_
  refine h_put (x := 0) zpp6 rfl rfl rfl ⟨rfl, by decide, by decide⟩ rfl rfl ?_
  refine h_al zpp6 rfl rfl rfl (by decide) ?_
  refine h_ic zpp6 rfl rfl ?_
  refine h_put (x := 100000) zpp6 rfl rfl rfl ⟨rfl, by decide, by decide⟩ rfl rfl ?_
  refine h_al zpp6 rfl rfl rfl (by decide) ?_
  refine h_ic zpp6 rfl rfl ?_
  refine h_put (x := 30) zpp6 rfl rfl rfl ⟨rfl, by decide, by decide⟩ rfl rfl ?_
  refine h_al zpp6 rfl rfl rfl (by decide) ?_
  refine h_ic zpp6 rfl rfl ?_
  refine h_put (x := 0) zpp6 rfl rfl rfl ⟨rfl, by decide, by decide⟩ rfl rfl ?_
  refine h_retV zpp6 rfl ⟨rfl, ?_⟩
  refine h_retV zpp5 rfl ⟨rfl, ?_⟩
  refine h_aast zpp1 rfl rfl rfl rfl (by decide) ?_
  refine h_inc (z := 5) (ls' := [zR 32, zI 5]) zpp1 rfl rfl rfl rfl rfl ?_
  refine h_goto zpp1 rfl ?_
  refine h_il zpp1 rfl rfl rfl ?_
  refine h_al zpp1 rfl rfl rfl (by decide) ?_
  refine h_get (v := zR 44) zpp1 rfl rfl rfl ⟨rfl, by decide, by decide⟩ rfl ?_
  refine h_len (z := 8) zpp1 rfl rfl rfl (by decide) rfl ?_
  refine h_icmp (q := 145) zpp1 rfl rfl ?_
  refine h_al zpp1 rfl rfl rfl (by decide) ?_
  refine h_get (v := zR 44) zpp1 rfl rfl rfl ⟨rfl, by decide, by decide⟩ rfl ?_
  refine h_il zpp1 rfl rfl rfl ?_
  refine h_new (o := 63) (sh' := [(5, 15), (3, 11), (100, 400), (101, 6), (2, 4), (100, 9), (100, 9), (100, 9), (0, 5), (100, 6), (0, 5), (100, 6), (104, 8), (105, 6), (4, 5), (100, 101), (1, 2), (100, 3232), (101, 501), (100, 501), (101, 47), (0, 5), (100, 6), (0, 5), (100, 6), (0, 5), (100, 6), (0, 5), (100, 6), (0, 5), (100, 6), (0, 5)]) zpp1 rfl rfl (by decide) rfl rfl ?_
  refine h_dup zpp1 rfl rfl rfl ?_
  refine h_callV (as := [zR 63]) (rest := [zR 63, zI 5, zR 44]) (ls' := [zR 63]) zpp1 rfl rfl rfl rfl rfl ?_
  refine h_al zpp5 rfl rfl rfl (by decide) ?_
  refine h_obj zpp5 rfl rfl ⟨by decide, Nat.le_of_ble_eq_true rfl⟩ ?_
  refine h_al zpp5 rfl rfl rfl (by decide) ?_
  refine h_ic zpp5 rfl rfl ?_
  refine h_newa (o := 64) (sh' := [(5, 15), (3, 11), (100, 400), (101, 6), (2, 4), (100, 9), (100, 9), (100, 9), (0, 5), (100, 6), (0, 5), (100, 6), (104, 8), (105, 6), (4, 5), (100, 101), (1, 2), (100, 3232), (101, 501), (100, 501), (101, 47), (0, 5), (100, 6), (0, 5), (100, 6), (0, 5), (100, 6), (0, 5), (100, 6), (0, 5), (100, 6), (0, 5), (100, 6)]) zpp5 rfl rfl (by decide) rfl rfl ?_
  refine h_put (x := 64) zpp5 rfl rfl rfl ⟨rfl, by decide, by decide⟩ rfl rfl ?_
  refine h_al zpp5 rfl rfl rfl (by decide) ?_
  refine h_ic zpp5 rfl rfl ?_
  refine h_put (x := 0) zpp5 rfl rfl rfl ⟨rfl, by decide, by decide⟩ rfl rfl ?_
  refine h_al zpp5 rfl rfl rfl (by decide) ?_
  refine h_ic zpp5 rfl rfl ?_
  refine h_put (x := 0) zpp5 rfl rfl rfl ⟨rfl, by decide, by decide⟩ rfl rfl ?_
  refine h_al zpp5 rfl rfl rfl (by decide) ?_
  refine h_ic zpp5 rfl rfl ?_
  refine h_put (x := 0) zpp5 rfl rfl rfl ⟨rfl, by decide, by decide⟩ rfl rfl ?_
  refine h_al zpp5 rfl rfl rfl (by decide) ?_
  refine h_ic zpp5 rfl rfl ?_
  refine h_put (x := 0) zpp5 rfl rfl rfl ⟨rfl, by decide, by decide⟩ rfl rfl ?_
  refine h_al zpp5 rfl rfl rfl (by decide) ?_
  refine h_callV (as := [zR 63]) (rest := []) (ls' := [zR 63]) zpp5 rfl rfl rfl rfl rfl ?_
  refine h_al zpp6 rfl rfl rfl (by decide) ?_
  refine h_ic zpp6 rfl rfl ?_
  refine h_put (x := 0) zpp6 rfl rfl rfl ⟨rfl, by decide, by decide⟩ rfl rfl ?_
  refine h_al zpp6 rfl rfl rfl (by decide) ?_
  refine h_ic zpp6 rfl rfl ?_
  refine h_put (x := 100000) zpp6 rfl rfl rfl ⟨rfl, by decide, by decide⟩ rfl rfl ?_
  refine h_al zpp6 rfl rfl rfl (by decide) ?_
  refine h_ic zpp6 rfl rfl ?_
  refine h_put (x := 30) zpp6 rfl rfl rfl ⟨rfl, by decide, by decide⟩ rfl rfl ?_
  refine h_al zpp6 rfl rfl rfl (by decide) ?_
  refine h_ic zpp6 rfl rfl ?_
  refine h_put (x := 0) zpp6 rfl rfl rfl ⟨rfl, by decide, by decide⟩ rfl rfl ?_
  refine h_retV zpp6 rfl ⟨rfl, ?_⟩
  refine h_retV zpp5 rfl ⟨rfl, ?_⟩
  refine h_aast zpp1 rfl rfl rfl rfl (by decide) ?_
  refine h_inc (z := 6) (ls' := [zR 32, zI 6]) zpp1 rfl rfl rfl rfl rfl ?_
  refine h_goto zpp1 rfl ?_
  refine h_il zpp1 rfl rfl rfl ?_
  refine h_al zpp1 rfl rfl rfl (by decide) ?_
  refine h_get (v := zR 44) zpp1 rfl rfl rfl ⟨rfl, by decide, by decide⟩ rfl ?_
  refine h_len (z := 8) zpp1 rfl rfl rfl (by decide) rfl ?_
  refine h_icmp (q := 145) zpp1 rfl rfl ?_
  refine h_al zpp1 rfl rfl rfl (by decide) ?_
  refine h_get (v := zR 44) zpp1 rfl rfl rfl ⟨rfl, by decide, by decide⟩ rfl ?_
  refine h_il zpp1 rfl rfl rfl ?_
  refine h_new (o := 65) (sh' := [(5, 15), (3, 11), (100, 400), (101, 6), (2, 4), (100, 9), (100, 9), (100, 9), (0, 5), (100, 6), (0, 5), (100, 6), (104, 8), (105, 6), (4, 5), (100, 101), (1, 2), (100, 3232), (101, 501), (100, 501), (101, 47), (0, 5), (100, 6), (0, 5), (100, 6), (0, 5), (100, 6), (0, 5), (100, 6), (0, 5), (100, 6), (0, 5), (100, 6), (0, 5)]) zpp1 rfl rfl (by decide) rfl rfl ?_
  refine h_dup zpp1 rfl rfl rfl ?_
  refine h_callV (as := [zR 65]) (rest := [zR 65, zI 6, zR 44]) (ls' := [zR 65]) zpp1 rfl rfl rfl rfl rfl ?_
  refine h_al zpp5 rfl rfl rfl (by decide) ?_
  refine h_obj zpp5 rfl rfl ⟨by decide, Nat.le_of_ble_eq_true rfl⟩ ?_
  refine h_al zpp5 rfl rfl rfl (by decide) ?_
  refine h_ic zpp5 rfl rfl ?_
  refine h_newa (o := 66) (sh' := [(5, 15), (3, 11), (100, 400), (101, 6), (2, 4), (100, 9), (100, 9), (100, 9), (0, 5), (100, 6), (0, 5), (100, 6), (104, 8), (105, 6), (4, 5), (100, 101), (1, 2), (100, 3232), (101, 501), (100, 501), (101, 47), (0, 5), (100, 6), (0, 5), (100, 6), (0, 5), (100, 6), (0, 5), (100, 6), (0, 5), (100, 6), (0, 5), (100, 6), (0, 5), (100, 6)]) zpp5 rfl rfl (by decide) rfl rfl ?_
  refine h_put (x := 66) zpp5 rfl rfl rfl ⟨rfl, by decide, by decide⟩ rfl rfl ?_
  refine h_al zpp5 rfl rfl rfl (by decide) ?_
  refine h_ic zpp5 rfl rfl ?_
  refine h_put (x := 0) zpp5 rfl rfl rfl ⟨rfl, by decide, by decide⟩ rfl rfl ?_
  refine h_al zpp5 rfl rfl rfl (by decide) ?_
  refine h_ic zpp5 rfl rfl ?_
  refine h_put (x := 0) zpp5 rfl rfl rfl ⟨rfl, by decide, by decide⟩ rfl rfl ?_
  refine h_al zpp5 rfl rfl rfl (by decide) ?_
  refine h_ic zpp5 rfl rfl ?_
  refine h_put (x := 0) zpp5 rfl rfl rfl ⟨rfl, by decide, by decide⟩ rfl rfl ?_
  refine h_al zpp5 rfl rfl rfl (by decide) ?_
  refine h_ic zpp5 rfl rfl ?_
  refine h_put (x := 0) zpp5 rfl rfl rfl ⟨rfl, by decide, by decide⟩ rfl rfl ?_
  refine h_al zpp5 rfl rfl rfl (by decide) ?_
  refine h_callV (as := [zR 65]) (rest := []) (ls' := [zR 65]) zpp5 rfl rfl rfl rfl rfl ?_
  refine h_al zpp6 rfl rfl rfl (by decide) ?_
  refine h_ic zpp6 rfl rfl ?_
  refine h_put (x := 0) zpp6 rfl rfl rfl ⟨rfl, by decide, by decide⟩ rfl rfl ?_
  refine h_al zpp6 rfl rfl rfl (by decide) ?_
  refine h_ic zpp6 rfl rfl ?_
  refine h_put (x := 100000) zpp6 rfl rfl rfl ⟨rfl, by decide, by decide⟩ rfl rfl ?_
  refine h_al zpp6 rfl rfl rfl (by decide) ?_
  refine h_ic zpp6 rfl rfl ?_
  refine h_put (x := 30) zpp6 rfl rfl rfl ⟨rfl, by decide, by decide⟩ rfl rfl ?_
  refine h_al zpp6 rfl rfl rfl (by decide) ?_
  refine h_ic zpp6 rfl rfl ?_
  refine h_put (x := 0) zpp6 rfl rfl rfl ⟨rfl, by decide, by decide⟩ rfl rfl ?_
  refine h_retV zpp6 rfl ⟨rfl, ?_⟩
  refine h_retV zpp5 rfl ⟨rfl, ?_⟩
  refine h_aast zpp1 rfl rfl rfl rfl (by decide) ?_
  refine h_inc (z := 7) (ls' := [zR 32, zI 7]) zpp1 rfl rfl rfl rfl rfl ?_
  refine h_goto zpp1 rfl ?_
  refine h_il zpp1 rfl rfl rfl ?_
  refine h_al zpp1 rfl rfl rfl (by decide) ?_
  refine h_get (v := zR 44) zpp1 rfl rfl rfl ⟨rfl, by decide, by decide⟩ rfl ?_
  refine h_len (z := 8) zpp1 rfl rfl rfl (by decide) rfl ?_
  refine h_icmp (q := 145) zpp1 rfl rfl ?_
  refine h_al zpp1 rfl rfl rfl (by decide) ?_
  refine h_get (v := zR 44) zpp1 rfl rfl rfl ⟨rfl, by decide, by decide⟩ rfl ?_
  refine h_il zpp1 rfl rfl rfl ?_
  refine h_new (o := 67) (sh' := [(5, 15), (3, 11), (100, 400), (101, 6), (2, 4), (100, 9), (100, 9), (100, 9), (0, 5), (100, 6), (0, 5), (100, 6), (104, 8), (105, 6), (4, 5), (100, 101), (1, 2), (100, 3232), (101, 501), (100, 501), (101, 47), (0, 5), (100, 6), (0, 5), (100, 6), (0, 5), (100, 6), (0, 5), (100, 6), (0, 5), (100, 6), (0, 5), (100, 6), (0, 5), (100, 6), (0, 5)]) zpp1 rfl rfl (by decide) rfl rfl ?_
  refine h_dup zpp1 rfl rfl rfl ?_
  refine h_callV (as := [zR 67]) (rest := [zR 67, zI 7, zR 44]) (ls' := [zR 67]) zpp1 rfl rfl rfl rfl rfl ?_
  refine h_al zpp5 rfl rfl rfl (by decide) ?_
  refine h_obj zpp5 rfl rfl ⟨by decide, Nat.le_of_ble_eq_true rfl⟩ ?_
  refine h_al zpp5 rfl rfl rfl (by decide) ?_
  refine h_ic zpp5 rfl rfl ?_
  refine h_newa (o := 68) (sh' := [(5, 15), (3, 11), (100, 400), (101, 6), (2, 4), (100, 9), (100, 9), (100, 9), (0, 5), (100, 6), (0, 5), (100, 6), (104, 8), (105, 6), (4, 5), (100, 101), (1, 2), (100, 3232), (101, 501), (100, 501), (101, 47), (0, 5), (100, 6), (0, 5), (100, 6), (0, 5), (100, 6), (0, 5), (100, 6), (0, 5), (100, 6), (0, 5), (100, 6), (0, 5), (100, 6), (0, 5), (100, 6)]) zpp5 rfl rfl (by decide) rfl rfl ?_
  refine h_put (x := 68) zpp5 rfl rfl rfl ⟨rfl, by decide, by decide⟩ rfl rfl ?_
  refine h_al zpp5 rfl rfl rfl (by decide) ?_
  refine h_ic zpp5 rfl rfl ?_
  refine h_put (x := 0) zpp5 rfl rfl rfl ⟨rfl, by decide, by decide⟩ rfl rfl ?_
  refine h_al zpp5 rfl rfl rfl (by decide) ?_
  refine h_ic zpp5 rfl rfl ?_
  refine h_put (x := 0) zpp5 rfl rfl rfl ⟨rfl, by decide, by decide⟩ rfl rfl ?_
  refine h_al zpp5 rfl rfl rfl (by decide) ?_
  refine h_ic zpp5 rfl rfl ?_
  refine h_put (x := 0) zpp5 rfl rfl rfl ⟨rfl, by decide, by decide⟩ rfl rfl ?_
  refine h_al zpp5 rfl rfl rfl (by decide) ?_
  refine h_ic zpp5 rfl rfl ?_
  refine h_put (x := 0) zpp5 rfl rfl rfl ⟨rfl, by decide, by decide⟩ rfl rfl ?_
  refine h_al zpp5 rfl rfl rfl (by decide) ?_
  refine h_callV (as := [zR 67]) (rest := []) (ls' := [zR 67]) zpp5 rfl rfl rfl rfl rfl ?_
  refine h_al zpp6 rfl rfl rfl (by decide) ?_
  refine h_ic zpp6 rfl rfl ?_
  refine h_put (x := 0) zpp6 rfl rfl rfl ⟨rfl, by decide, by decide⟩ rfl rfl ?_
  refine h_al zpp6 rfl rfl rfl (by decide) ?_
  refine h_ic zpp6 rfl rfl ?_
  refine h_put (x := 100000) zpp6 rfl rfl rfl ⟨rfl, by decide, by decide⟩ rfl rfl ?_
  refine h_al zpp6 rfl rfl rfl (by decide) ?_
  refine h_ic zpp6 rfl rfl ?_
  refine h_put (x := 30) zpp6 rfl rfl rfl ⟨rfl, by decide, by decide⟩ rfl rfl ?_
  refine h_al zpp6 rfl rfl rfl (by decide) ?_
  refine h_ic zpp6 rfl rfl ?_
  refine h_put (x := 0) zpp6 rfl rfl rfl ⟨rfl, by decide, by decide⟩ rfl rfl ?_
  refine h_retV zpp6 rfl ⟨rfl, ?_⟩
  refine h_retV zpp5 rfl ⟨rfl, ?_⟩
  refine h_aast zpp1 rfl rfl rfl rfl (by decide) ?_
  refine h_inc (z := 8) (ls' := [zR 32, zI 8]) zpp1 rfl rfl rfl rfl rfl ?_
  refine h_goto zpp1 rfl ?_
  refine h_il zpp1 rfl rfl rfl ?_
  refine h_al zpp1 rfl rfl rfl (by decide) ?_
  refine h_get (v := zR 44) zpp1 rfl rfl rfl ⟨rfl, by decide, by decide⟩ rfl ?_
  refine h_len (z := 8) zpp1 rfl rfl rfl (by decide) rfl ?_
  refine h_icmp (q := 164) zpp1 rfl rfl ?_
  refine h_ic zpp1 rfl rfl ?_
  refine h_is (ls' := [zR 32, zI 0]) zpp1 rfl rfl (Nat.le_of_ble_eq_true rfl) rfl ?_
  refine h_il zpp1 rfl rfl rfl ?_
  refine h_al zpp1 rfl rfl rfl (by decide) ?_
  refine h_get (v := zR 45) zpp1 rfl rfl rfl ⟨rfl, by decide, by decide⟩ rfl ?_
  refine h_len (z := 6) zpp1 rfl rfl rfl (by decide) rfl ?_
  refine h_icmp (q := 175) zpp1 rfl rfl ?_
  refine h_al zpp1 rfl rfl rfl (by decide) ?_
  refine h_get (v := zR 45) zpp1 rfl rfl rfl ⟨rfl, by decide, by decide⟩ rfl ?_
  refine h_il zpp1 rfl rfl rfl ?_
  refine h_new (o := 69) (sh' := [(5, 15), (3, 11), (100, 400), (101, 6), (2, 4), (100, 9), (100, 9), (100, 9), (0, 5), (100, 6), (0, 5), (100, 6), (104, 8), (105, 6), (4, 5), (100, 101), (1, 2), (100, 3232), (101, 501), (100, 501), (101, 47), (0, 5), (100, 6), (0, 5), (100, 6), (0, 5), (100, 6), (0, 5), (100, 6), (0, 5), (100, 6), (0, 5), (100, 6), (0, 5), (100, 6), (0, 5), (100, 6), (4, 5)]) zpp1 rfl rfl (by decide) rfl rfl ?_
  refine h_dup zpp1 rfl rfl rfl ?_
  refine h_callV (as := [zR 69]) (rest := [zR 69, zI 0, zR 45]) (ls' := [zR 69]) zpp1 rfl rfl rfl rfl rfl ?_
  refine h_al zpp7 rfl rfl rfl (by decide) ?_
  refine h_obj zpp7 rfl rfl ⟨by decide, Nat.le_of_ble_eq_true rfl⟩ ?_
  refine h_al zpp7 rfl rfl rfl (by decide) ?_
  refine h_ic zpp7 rfl rfl ?_
  refine h_newa (o := 70) (sh' := [(5, 15), (3, 11), (100, 400), (101, 6), (2, 4), (100, 9), (100, 9), (100, 9), (0, 5), (100, 6), (0, 5), (100, 6), (104, 8), (105, 6), (4, 5), (100, 101), (1, 2), (100, 3232), (101, 501), (100, 501), (101, 47), (0, 5), (100, 6), (0, 5), (100, 6), (0, 5), (100, 6), (0, 5), (100, 6), (0, 5), (100, 6), (0, 5), (100, 6), (0, 5), (100, 6), (0, 5), (100, 6), (4, 5), (100, 101)]) zpp7 rfl rfl (by decide) rfl rfl ?_
  refine h_put (x := 70) zpp7 rfl rfl rfl ⟨rfl, by decide, by decide⟩ rfl rfl ?_
  refine h_al zpp7 rfl rfl rfl (by decide) ?_
  refine h_ic zpp7 rfl rfl ?_
  refine h_put (x := 0) zpp7 rfl rfl rfl ⟨rfl, by decide, by decide⟩ rfl rfl ?_
  refine h_al zpp7 rfl rfl rfl (by decide) ?_
  refine h_ic zpp7 rfl rfl ?_
  refine h_put (x := 3) zpp7 rfl rfl rfl ⟨rfl, by decide, by decide⟩ rfl rfl ?_
  refine h_al zpp7 rfl rfl rfl (by decide) ?_
  refine h_ic zpp7 rfl rfl ?_
  refine h_put (x := (-1)) zpp7 rfl rfl rfl ⟨rfl, by decide, by decide⟩ rfl rfl ?_
  refine h_al zpp7 rfl rfl rfl (by decide) ?_
  refine h_ic zpp7 rfl rfl ?_
  refine h_put (x := 0) zpp7 rfl rfl rfl ⟨rfl, by decide, by decide⟩ rfl rfl ?_
  refine h_retV zpp7 rfl ⟨rfl, ?_⟩
  refine h_aast zpp1 rfl rfl rfl rfl (by decide) ?_
  refine h_inc (z := 1) (ls' := [zR 32, zI 1]) zpp1 rfl rfl rfl rfl rfl ?_
  refine h_goto zpp1 rfl ?_
  refine h_il zpp1 rfl rfl rfl ?_
  refine h_al zpp1 rfl rfl rfl (by decide) ?_
  refine h_get (v := zR 45) zpp1 rfl rfl rfl ⟨rfl, by decide, by decide⟩ rfl ?_
  refine h_len (z := 6) zpp1 rfl rfl rfl (by decide) rfl ?_
  refine h_icmp (q := 175) zpp1 rfl rfl ?_
  refine h_al zpp1 rfl rfl rfl (by decide) ?_
  refine h_get (v := zR 45) zpp1 rfl rfl rfl ⟨rfl, by decide, by decide⟩ rfl ?_
  refine h_il zpp1 rfl rfl rfl ?_
  refine h_new (o := 71) (sh' := [(5, 15), (3, 11), (100, 400), (101, 6), (2, 4), (100, 9), (100, 9), (100, 9), (0, 5), (100, 6), (0, 5), (100, 6), (104, 8), (105, 6), (4, 5), (100, 101), (1, 2), (100, 3232), (101, 501), (100, 501), (101, 47), (0, 5), (100, 6), (0, 5), (100, 6), (0, 5), (100, 6), (0, 5), (100, 6), (0, 5), (100, 6), (0, 5), (100, 6), (0, 5), (100, 6), (0, 5), (100, 6), (4, 5), (100, 101), (4, 5)]) zpp1 rfl rfl (by decide) rfl rfl ?_
  refine h_dup zpp1 rfl rfl rfl ?_
  refine h_callV (as := [zR 71]) (rest := [zR 71, zI 1, zR 45]) (ls' := [zR 71]) zpp1 rfl rfl rfl rfl rfl ?_
  refine h_al zpp7 rfl rfl rfl (by decide) ?_
  refine h_obj zpp7 rfl rfl ⟨by decide, Nat.le_of_ble_eq_true rfl⟩ ?_
  refine h_al zpp7 rfl rfl rfl (by decide) ?_
  refine h_ic zpp7 rfl rfl ?_
  refine h_newa (o := 72) (sh' := [(5, 15), (3, 11), (100, 400), (101, 6), (2, 4), (100, 9), (100, 9), (100, 9), (0, 5), (100, 6), (0, 5), (100, 6), (104, 8), (105, 6), (4, 5), (100, 101), (1, 2), (100, 3232), (101, 501), (100, 501), (101, 47), (0, 5), (100, 6), (0, 5), (100, 6), (0, 5), (100, 6), (0, 5), (100, 6), (0, 5), (100, 6), (0, 5), (100, 6), (0, 5), (100, 6), (0, 5), (100, 6), (4, 5), (100, 101), (4, 5), (100, 101)]) zpp7 rfl rfl (by decide) rfl rfl ?_
  refine h_put (x := 72) zpp7 rfl rfl rfl ⟨rfl, by decide, by decide⟩ rfl rfl ?_
  refine h_al zpp7 rfl rfl rfl (by decide) ?_
  refine h_ic zpp7 rfl rfl ?_
  refine h_put (x := 0) zpp7 rfl rfl rfl ⟨rfl, by decide, by decide⟩ rfl rfl ?_
  refine h_al zpp7 rfl rfl rfl (by decide) ?_
  refine h_ic zpp7 rfl rfl ?_
  refine h_put (x := 3) zpp7 rfl rfl rfl ⟨rfl, by decide, by decide⟩ rfl rfl ?_
  refine h_al zpp7 rfl rfl rfl (by decide) ?_
  refine h_ic zpp7 rfl rfl ?_
  refine h_put (x := (-1)) zpp7 rfl rfl rfl ⟨rfl, by decide, by decide⟩ rfl rfl ?_
  refine h_al zpp7 rfl rfl rfl (by decide) ?_
  refine h_ic zpp7 rfl rfl ?_
  refine h_put (x := 0) zpp7 rfl rfl rfl ⟨rfl, by decide, by decide⟩ rfl rfl ?_
  refine h_retV zpp7 rfl ⟨rfl, ?_⟩
  refine h_aast zpp1 rfl rfl rfl rfl (by decide) ?_
  refine h_inc (z := 2) (ls' := [zR 32, zI 2]) zpp1 rfl rfl rfl rfl rfl ?_
  refine h_goto zpp1 rfl ?_
  refine h_il zpp1 rfl rfl rfl ?_
  refine h_al zpp1 rfl rfl rfl (by decide) ?_
  refine h_get (v := zR 45) zpp1 rfl rfl rfl ⟨rfl, by decide, by decide⟩ rfl ?_
  refine h_len (z := 6) zpp1 rfl rfl rfl (by decide) rfl ?_
  refine h_icmp (q := 175) zpp1 rfl rfl ?_
  refine h_al zpp1 rfl rfl rfl (by decide) ?_
  refine h_get (v := zR 45) zpp1 rfl rfl rfl ⟨rfl, by decide, by decide⟩ rfl ?_
  refine h_il zpp1 rfl rfl rfl ?_
  refine h_new (o := 73) (sh' := [(5, 15), (3, 11), (100, 400), (101, 6), (2, 4), (100, 9), (100, 9), (100, 9), (0, 5), (100, 6), (0, 5), (100, 6), (104, 8), (105, 6), (4, 5), (100, 101), (1, 2), (100, 3232), (101, 501), (100, 501), (101, 47), (0, 5), (100, 6), (0, 5), (100, 6), (0, 5), (100, 6), (0, 5), (100, 6), (0, 5), (100, 6), (0, 5), (100, 6), (0, 5), (100, 6), (0, 5), (100, 6), (4, 5), (100, 101), (4, 5), (100, 101), (4, 5)]) zpp1 rfl rfl (by decide) rfl rfl ?_
  refine h_dup zpp1 rfl rfl rfl ?_
  refine h_callV (as := [zR 73]) (rest := [zR 73, zI 2, zR 45]) (ls' := [zR 73]) zpp1 rfl rfl rfl rfl rfl ?_
  refine h_al zpp7 rfl rfl rfl (by decide) ?_
  refine h_obj zpp7 rfl rfl ⟨by decide, Nat.le_of_ble_eq_true rfl⟩ ?_
  refine h_al zpp7 rfl rfl rfl (by decide) ?_
  refine h_ic zpp7 rfl rfl ?_
  refine h_newa (o := 74) (sh' := [(5, 15), (3, 11), (100, 400), (101, 6), (2, 4), (100, 9), (100, 9), (100, 9), (0, 5), (100, 6), (0, 5), (100, 6), (104, 8), (105, 6), (4, 5), (100, 101), (1, 2), (100, 3232), (101, 501), (100, 501), (101, 47), (0, 5), (100, 6), (0, 5), (100, 6), (0, 5), (100, 6), (0, 5), (100, 6), (0, 5), (100, 6), (0, 5), (100, 6), (0, 5), (100, 6), (0, 5), (100, 6), (4, 5), (100, 101), (4, 5), (100, 101), (4, 5), (100, 101)]) zpp7 rfl rfl (by decide) rfl rfl ?_
  refine h_put (x := 74) zpp7 rfl rfl rfl ⟨rfl, by decide, by decide⟩ rfl rfl ?_
  refine h_al zpp7 rfl rfl rfl (by decide) ?_
  refine h_ic zpp7 rfl rfl ?_
  refine h_put (x := 0) zpp7 rfl rfl rfl ⟨rfl, by decide, by decide⟩ rfl rfl ?_
  refine h_al zpp7 rfl rfl rfl (by decide) ?_
  refine h_ic zpp7 rfl rfl ?_
  refine h_put (x := 3) zpp7 rfl rfl rfl ⟨rfl, by decide, by decide⟩ rfl rfl ?_
  refine h_al zpp7 rfl rfl rfl (by decide) ?_
  refine h_ic zpp7 rfl rfl ?_
  refine h_put (x := (-1)) zpp7 rfl rfl rfl ⟨rfl, by decide, by decide⟩ rfl rfl ?_
  refine h_al zpp7 rfl rfl rfl (by decide) ?_
  refine h_ic zpp7 rfl rfl ?_
  refine h_put (x := 0) zpp7 rfl rfl rfl ⟨rfl, by decide, by decide⟩ rfl rfl ?_
  refine h_retV zpp7 rfl ⟨rfl, ?_⟩
  refine h_aast zpp1 rfl rfl rfl rfl (by decide) ?_
  refine h_inc (z := 3) (ls' := [zR 32, zI 3]) zpp1 rfl rfl rfl rfl rfl ?_
  refine h_goto zpp1 rfl ?_
  refine h_il zpp1 rfl rfl rfl ?_
  refine h_al zpp1 rfl rfl rfl (by decide) ?_
  refine h_get (v := zR 45) zpp1 rfl rfl rfl ⟨rfl, by decide, by decide⟩ rfl ?_
  refine h_len (z := 6) zpp1 rfl rfl rfl (by decide) rfl ?_
  refine h_icmp (q := 175) zpp1 rfl rfl ?_
  refine h_al zpp1 rfl rfl rfl (by decide) ?_
  refine h_get (v := zR 45) zpp1 rfl rfl rfl ⟨rfl, by decide, by decide⟩ rfl ?_
  refine h_il zpp1 rfl rfl rfl ?_
  refine h_new (o := 75) (sh' := [(5, 15), (3, 11), (100, 400), (101, 6), (2, 4), (100, 9), (100, 9), (100, 9), (0, 5), (100, 6), (0, 5), (100, 6), (104, 8), (105, 6), (4, 5), (100, 101), (1, 2), (100, 3232), (101, 501), (100, 501), (101, 47), (0, 5), (100, 6), (0, 5), (100, 6), (0, 5), (100, 6), (0, 5), (100, 6), (0, 5), (100, 6), (0, 5), (100, 6), (0, 5), (100, 6), (0, 5), (100, 6), (4, 5), (100, 101), (4, 5), (100, 101), (4, 5), (100, 101), (4, 5)]) zpp1 rfl rfl (by decide) rfl rfl ?_
  refine h_dup zpp1 rfl rfl rfl ?_
  refine h_callV (as := [zR 75]) (rest := [zR 75, zI 3, zR 45]) (ls' := [zR 75]) zpp1 rfl rfl rfl rfl rfl ?_
  refine h_al zpp7 rfl rfl rfl (by decide) ?_
  refine h_obj zpp7 rfl rfl ⟨by decide, Nat.le_of_ble_eq_true rfl⟩ ?_
  refine h_al zpp7 rfl rfl rfl (by decide) ?_
  refine h_ic zpp7 rfl rfl ?_
  refine h_newa (o := 76) (sh' := [(5, 15), (3, 11), (100, 400), (101, 6), (2, 4), (100, 9), (100, 9), (100, 9), (0, 5), (100, 6), (0, 5), (100, 6), (104, 8), (105, 6), (4, 5), (100, 101), (1, 2), (100, 3232), (101, 501), (100, 501), (101, 47), (0, 5), (100, 6), (0, 5), (100, 6), (0, 5), (100, 6), (0, 5), (100, 6), (0, 5), (100, 6), (0, 5), (100, 6), (0, 5), (100, 6), (0, 5), (100, 6), (4, 5), (100, 101), (4, 5), (100, 101), (4, 5), (100, 101), (4, 5), (100, 101)]) zpp7 rfl rfl (by decide) rfl rfl ?_
  refine h_put (x := 76) zpp7 rfl rfl rfl ⟨rfl, by decide, by decide⟩ rfl rfl ?_
  refine h_al zpp7 rfl rfl rfl (by decide) ?_
  refine h_ic zpp7 rfl rfl ?_
  refine h_put (x := 0) zpp7 rfl rfl rfl ⟨rfl, by decide, by decide⟩ rfl rfl ?_
  refine h_al zpp7 rfl rfl rfl (by decide) ?_
  refine h_ic zpp7 rfl rfl ?_
  refine h_put (x := 3) zpp7 rfl rfl rfl ⟨rfl, by decide, by decide⟩ rfl rfl ?_
  refine h_al zpp7 rfl rfl rfl (by decide) ?_
  refine h_ic zpp7 rfl rfl ?_
  refine h_put (x := (-1)) zpp7 rfl rfl rfl ⟨rfl, by decide, by decide⟩ rfl rfl ?_
  refine h_al zpp7 rfl rfl rfl (by decide) ?_
  refine h_ic zpp7 rfl rfl ?_
  refine h_put (x := 0) zpp7 rfl rfl rfl ⟨rfl, by decide, by decide⟩ rfl rfl ?_
  refine h_retV zpp7 rfl ⟨rfl, ?_⟩
  refine h_aast zpp1 rfl rfl rfl rfl (by decide) ?_
  refine h_inc (z := 4) (ls' := [zR 32, zI 4]) zpp1 rfl rfl rfl rfl rfl ?_
  refine h_goto zpp1 rfl ?_
  refine h_il zpp1 rfl rfl rfl ?_
  refine h_al zpp1 rfl rfl rfl (by decide) ?_
  refine h_get (v := zR 45) zpp1 rfl rfl rfl ⟨rfl, by decide, by decide⟩ rfl ?_
  refine h_len (z := 6) zpp1 rfl rfl rfl (by decide) rfl ?_
  refine h_icmp (q := 175) zpp1 rfl rfl ?_
  refine h_al zpp1 rfl rfl rfl (by decide) ?_
  refine h_get (v := zR 45) zpp1 rfl rfl rfl ⟨rfl, by decide, by decide⟩ rfl ?_
  refine h_il zpp1 rfl rfl rfl ?_
  refine h_new (o := 77) (sh' := [(5, 15), (3, 11), (100, 400), (101, 6), (2, 4), (100, 9), (100, 9), (100, 9), (0, 5), (100, 6), (0, 5), (100, 6), (104, 8), (105, 6), (4, 5), (100, 101), (1, 2), (100, 3232), (101, 501), (100, 501), (101, 47), (0, 5), (100, 6), (0, 5), (100, 6), (0, 5), (100, 6), (0, 5), (100, 6), (0, 5), (100, 6), (0, 5), (100, 6), (0, 5), (100, 6), (0, 5), (100, 6), (4, 5), (100, 101), (4, 5), (100, 101), (4, 5), (100, 101), (4, 5), (100, 101), (4, 5)]) zpp1 rfl rfl (by decide) rfl rfl ?_
  refine h_dup zpp1 rfl rfl rfl ?_
  refine h_callV (as := [zR 77]) (rest := [zR 77, zI 4, zR 45]) (ls' := [zR 77]) zpp1 rfl rfl rfl rfl rfl ?_
  refine h_al zpp7 rfl rfl rfl (by decide) ?_
  refine h_obj zpp7 rfl rfl ⟨by decide, Nat.le_of_ble_eq_true rfl⟩ ?_
  refine h_al zpp7 rfl rfl rfl (by decide) ?_
  refine h_ic zpp7 rfl rfl ?_
  refine h_newa (o := 78) (sh' := [(5, 15), (3, 11), (100, 400), (101, 6), (2, 4), (100, 9), (100, 9), (100, 9), (0, 5), (100, 6), (0, 5), (100, 6), (104, 8), (105, 6), (4, 5), (100, 101), (1, 2), (100, 3232), (101, 501), (100, 501), (101, 47), (0, 5), (100, 6), (0, 5), (100, 6), (0, 5), (100, 6), (0, 5), (100, 6), (0, 5), (100, 6), (0, 5), (100, 6), (0, 5), (100, 6), (0, 5), (100, 6), (4, 5), (100, 101), (4, 5), (100, 101), (4, 5), (100, 101), (4, 5), (100, 101), (4, 5), (100, 101)]) zpp7 rfl rfl (by decide) rfl rfl ?_
  refine h_put (x := 78) zpp7 rfl rfl rfl ⟨rfl, by decide, by decide⟩ rfl rfl ?_
  refine h_al zpp7 rfl rfl rfl (by decide) ?_
  refine h_ic zpp7 rfl rfl ?_
  refine h_put (x := 0) zpp7 rfl rfl rfl ⟨rfl, by decide, by decide⟩ rfl rfl ?_
  refine h_al zpp7 rfl rfl rfl (by decide) ?_
  refine h_ic zpp7 rfl rfl ?_
  refine h_put (x := 3) zpp7 rfl rfl rfl ⟨rfl, by decide, by decide⟩ rfl rfl ?_
  refine h_al zpp7 rfl rfl rfl (by decide) ?_
  refine h_ic zpp7 rfl rfl ?_
  refine h_put (x := (-1)) zpp7 rfl rfl rfl ⟨rfl, by decide, by decide⟩ rfl rfl ?_
  refine h_al zpp7 rfl rfl rfl (by decide) ?_
  refine h_ic zpp7 rfl rfl ?_
  refine h_put (x := 0) zpp7 rfl rfl rfl ⟨rfl, by decide, by decide⟩ rfl rfl ?_
  refine h_retV zpp7 rfl ⟨rfl, ?_⟩
  refine h_aast zpp1 rfl rfl rfl rfl (by decide) ?_
  refine h_inc (z := 5) (ls' := [zR 32, zI 5]) zpp1 rfl rfl rfl rfl rfl ?_
  refine h_goto zpp1 rfl ?_
  refine h_il zpp1 rfl rfl rfl ?_
  refine h_al zpp1 rfl rfl rfl (by decide) ?_
  refine h_get (v := zR 45) zpp1 rfl rfl rfl ⟨rfl, by decide, by decide⟩ rfl ?_
  refine h_len (z := 6) zpp1 rfl rfl rfl (by decide) rfl ?_
  refine h_icmp (q := 175) zpp1 rfl rfl ?_
  refine h_al zpp1 rfl rfl rfl (by decide) ?_
  refine h_get (v := zR 45) zpp1 rfl rfl rfl ⟨rfl, by decide, by decide⟩ rfl ?_
  refine h_il zpp1 rfl rfl rfl ?_
  refine h_new (o := 79) (sh' := [(5, 15), (3, 11), (100, 400), (101, 6), (2, 4), (100, 9), (100, 9), (100, 9), (0, 5), (100, 6), (0, 5), (100, 6), (104, 8), (105, 6), (4, 5), (100, 101), (1, 2), (100, 3232), (101, 501), (100, 501), (101, 47), (0, 5), (100, 6), (0, 5), (100, 6), (0, 5), (100, 6), (0, 5), (100, 6), (0, 5), (100, 6), (0, 5), (100, 6), (0, 5), (100, 6), (0, 5), (100, 6), (4, 5), (100, 101), (4, 5), (100, 101), (4, 5), (100, 101), (4, 5), (100, 101), (4, 5), (100, 101), (4, 5)]) zpp1 rfl rfl (by decide) rfl rfl ?_
  refine h_dup zpp1 rfl rfl rfl ?_
  refine h_callV (as := [zR 79]) (rest := [zR 79, zI 5, zR 45]) (ls' := [zR 79]) zpp1 rfl rfl rfl rfl rfl ?_
  refine h_al zpp7 rfl rfl rfl (by decide) ?_
  refine h_obj zpp7 rfl rfl ⟨by decide, Nat.le_of_ble_eq_true rfl⟩ ?_
  refine h_al zpp7 rfl rfl rfl (by decide) ?_
  refine h_ic zpp7 rfl rfl ?_
  refine h_newa (o := 80) (sh' := [(5, 15), (3, 11), (100, 400), (101, 6), (2, 4), (100, 9), (100, 9), (100, 9), (0, 5), (100, 6), (0, 5), (100, 6), (104, 8), (105, 6), (4, 5), (100, 101), (1, 2), (100, 3232), (101, 501), (100, 501), (101, 47), (0, 5), (100, 6), (0, 5), (100, 6), (0, 5), (100, 6), (0, 5), (100, 6), (0, 5), (100, 6), (0, 5), (100, 6), (0, 5), (100, 6), (0, 5), (100, 6), (4, 5), (100, 101), (4, 5), (100, 101), (4, 5), (100, 101), (4, 5), (100, 101), (4, 5), (100, 101), (4, 5), (100, 101)]) zpp7 rfl rfl (by decide) rfl rfl ?_
  refine h_put (x := 80) zpp7 rfl rfl rfl ⟨rfl, by decide, by decide⟩ rfl rfl ?_
  refine h_al zpp7 rfl rfl rfl (by decide) ?_
  refine h_ic zpp7 rfl rfl ?_
  refine h_put (x := 0) zpp7 rfl rfl rfl ⟨rfl, by decide, by decide⟩ rfl rfl ?_
  refine h_al zpp7 rfl rfl rfl (by decide) ?_
  refine h_ic zpp7 rfl rfl ?_
  refine h_put (x := 3) zpp7 rfl rfl rfl ⟨rfl, by decide, by decide⟩ rfl rfl ?_
  refine h_al zpp7 rfl rfl rfl (by decide) ?_
  refine h_ic zpp7 rfl rfl ?_
  refine h_put (x := (-1)) zpp7 rfl rfl rfl ⟨rfl, by decide, by decide⟩ rfl rfl ?_
  refine h_al zpp7 rfl rfl rfl (by decide) ?_
  refine h_ic zpp7 rfl rfl ?_
  refine h_put (x := 0) zpp7 rfl rfl rfl ⟨rfl, by decide, by decide⟩ rfl rfl ?_
  refine h_retV zpp7 rfl ⟨rfl, ?_⟩
  refine h_aast zpp1 rfl rfl rfl rfl (by decide) ?_
  refine h_inc (z := 6) (ls' := [zR 32, zI 6]) zpp1 rfl rfl rfl rfl rfl ?_
  refine h_goto zpp1 rfl ?_
  refine h_il zpp1 rfl rfl rfl ?_
  refine h_al zpp1 rfl rfl rfl (by decide) ?_
  refine h_get (v := zR 45) zpp1 rfl rfl rfl ⟨rfl, by decide, by decide⟩ rfl ?_
  refine h_len (z := 6) zpp1 rfl rfl rfl (by decide) rfl ?_
  refine h_icmp (q := 194) zpp1 rfl rfl ?_
  refine h_retV zpp1 rfl ⟨rfl, ?_⟩
  refine h_as (ls' := [zR 0, zR 32, zJ, zJ]) zpp0 rfl rfl (Nat.le_of_ble_eq_true rfl) (by decide) rfl ?_
  exact K
