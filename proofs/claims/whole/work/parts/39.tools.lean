/-! tools for the law's cases: what a call leaves, its answer and its status -/
theorem zclI_mono {w : zWt} {d t : Nat} {as : List zV} {H : zHt} {K K' : Int → zHt → Prop} (h : zclI w d t as H K) (hk : ∀ x H', K x H' → K' x H') : zclI w d t as H K' :=
  g_mono h (fun r H' q => by obtain ⟨x, e, q⟩ := q; exact ⟨x, e, hk _ _ q⟩)
theorem zclL_mono {w : zWt} {d t : Nat} {as : List zV} {H : zHt} {K K' : Int → zHt → Prop} (h : zclL w d t as H K) (hk : ∀ x H', K x H' → K' x H') : zclL w d t as H K' :=
  g_mono h (fun r H' q => by obtain ⟨x, e, q⟩ := q; exact ⟨x, e, hk _ _ q⟩)
theorem zclV_mono {w : zWt} {d t : Nat} {as : List zV} {H : zHt} {K K' : zHt → Prop} (h : zclV w d t as H K) (hk : ∀ H', K H' → K' H') : zclV w d t as H K' :=
  g_mono h (fun r H' q => by obtain ⟨e, q⟩ := q; exact ⟨e, hk _ q⟩)
/-- the places that later calls show, but the rows as told -/
def zrel2 (a j : Int) : Bool := zrel a j && !(decide (69 ≤ a) && decide (a ≤ 80))
def zkeep2 (H H' : zHt) : Prop := ∀ a j : Int, zrel2 a j = true → H' a j = H a j
-- lists in arrays
def zArr (H : zHt) (A : Int) (l : List Int) : Prop := ∀ k : Nat, k < l.length → H A k = l.getD k 0
/-- the first place of a value from k on, or -1 -/
def zplc (v : Int) : List Int → Int → Int
  | [], _ => -1
  | a :: l, k => if a = v then k else zplc v l (k + 1)
/-- a row: its values, how it ends, where it goes back to -/
noncomputable def zgoes (law bound : Int) : Nat → List Int → List Int × Int × Int
  | 0, vs => (vs, 3, -1)
  | s + 1, vs =>
    if zplc (zsum law (vs.getD (vs.length - 1) 0).toNat) vs 0 ≠ -1 then (vs, 1, zplc (zsum law (vs.getD (vs.length - 1) 0).toNat) vs 0)
    else if bound < zsum law (vs.getD (vs.length - 1) 0).toNat then (vs, 2, -1)
    else if zsum law (vs.getD (vs.length - 1) 0).toNat = 0 then (vs ++ [0], 0, -1)
    else zgoes law bound s (vs ++ [zsum law (vs.getD (vs.length - 1) 0).toNat])
noncomputable def zrow (law bound steps n : Int) : List Int × Int × Int := zgoes law bound steps.toNat [n]
def zWalkIs (H : zHt) (o : Int) (r : List Int × Int × Int) : Prop := H o 1 = r.1.length ∧ H o 2 = r.2.1 ∧ H o 3 = r.2.2 ∧ zArr H (o + 1) r.1
def zWlk (H : zHt) : Prop := ∀ r : Nat, r ≤ 5 → (r : Int) < H 40 1 → H (69 + 2 * r) 4 ≠ 0 → zWalkIs H (69 + 2 * r) (zrow (H 40 4) (H 40 2) (H 40 3) (H 41 r))
/-- the tape, by both -/
def zTp (H : zHt) : Prop := H 33 8 = H 81 31 ∧ 0 ≤ H 33 8 ∧ H 33 8 ≤ 400 ∧ ∀ k : Nat, (k : Int) < H 33 8 → 0 ≤ H 34 k ∧ H 34 k ≤ 255 ∧ H 99 k = zi8 (H 34 k)
/-- a desk of the class at o, by the model from b on in A -/
def zDa (H : zHt) (o A b : Int) : Prop := (0 ≤ H o 4 ∧ H o 4 ≤ 3) ∧ H A (b + 9) = H o 4 ∧ H A (b + 6) = H o 1 ∧ H A (b + 7) = H o 2 ∧ H A (b + 8) = H o 3 ∧ (0 ≤ H o 1 ∧ H o 1 ≤ 6) ∧ (1 ≤ H o 2 ∧ H o 2 ≤ 999999999) ∧ (1 ≤ H o 3 ∧ H o 3 ≤ 100) ∧ ∀ k : Nat, (k : Int) < H o 1 → H (o + 1) k = H A (b + k) ∧ 1 ≤ H (o + 1) k ∧ H (o + 1) k ≤ 999999999
def zAc (H : zHt) : Prop := H 32 11 = H 81 5 ∧ 0 ≤ H 81 5 ∧ H 81 5 ≤ 8 ∧ (∀ i : Nat, i < 8 → ∃ j : Nat, j < 8 ∧ H 44 i = 53 + 2 * j) ∧ (∀ i j : Nat, i < 8 → j < 8 → H 44 i = H 44 j → i = j) ∧ ∀ i : Nat, (i : Int) < H 81 5 → zDa H (H 44 i) 84 (10 * i)
/-- the model's words -/
def zkwm : List Int := [13550, 1373818, 10495135, 8798, 8740238, 8341892836, 7047854770, 40586]
/-- no mark is on the way; the model's words stand -/
def zM93 (H : zHt) : Prop := (∀ j : Int, 0 ≤ j → j ≤ 2000 → H 93 j = 0) ∧ ∀ k : Nat, k < 8 → H 101 k = zkwm.getD k 0
theorem zM93_k {H H' : zHt} (h : zM93 H) (e1 : ∀ j, H' 93 j = H 93 j) (e2 : ∀ j, H' 101 j = H 101 j) : zM93 H' := ⟨fun j j0 j1 => (e1 j).trans (h.1 j j0 j1), fun k hk => (e2 k).trans (h.2 k hk)⟩
/-- what R0 is -/
def zAllR (H : zHt) : Prop := zDk H ∧ ((H 32 12 = H 81 32 ∧ H 32 13 = H 81 33) ∧ zM93 H) ∧ zTp H ∧ zAc H ∧ zIk H ∧ zWlk H
theorem zkeep_2 {H H' : zHt} (h : zkeep H H') : zkeep2 H H' := fun a j q => h a j (by unfold zrel2 at q; rw [Bool.and_eq_true] at q; exact q.1)
theorem zArr_eq {H H' : zHt} {A : Int} {l : List Int} (h : ∀ k : Nat, k < l.length → H' A k = H A k) (hA : zArr H A l) : zArr H' A l := fun k hk => by rw [h k hk]; exact hA k hk
theorem zrel_o {a j : Int} (h : 40 ≤ a ∧ a ≤ 41 ∨ 53 ≤ a ∧ a ≤ 80) : zrel a j = true := by
  unfold zrel
  rcases h with h | h
  · rw [decide_eq_true h.1, decide_eq_true h.2]; simp
  · rw [decide_eq_true h.1, decide_eq_true h.2]; simp
theorem zWlk_k {H H' : zHt} (h : zkeep H H') (hw : zWlk H) : zWlk H' := fun r h6 h1 h2 => by
  have e : ∀ j, H' 40 j = H 40 j := fun j => h 40 j (zrel_o (by omega))
  rw [e] at h1
  rw [h _ _ (zrel_o (by omega))] at h2
  obtain ⟨a1, a2, a3, a4⟩ := hw r h6 h1 h2
  rw [e, e, e, h 41 r (zrel_o (by omega))]
  refine ⟨?_, ?_, ?_, ?_⟩
  · rw [h _ _ (zrel_o (by omega))]; exact a1
  · rw [h _ _ (zrel_o (by omega))]; exact a2
  · rw [h _ _ (zrel_o (by omega))]; exact a3
  · exact zArr_eq (fun k _ => h _ _ (zrel_o (by omega))) a4
def zRk (H H' : zHt) : Prop := zkeep2 H H' ∧ (zWlk H → zWlk H')
theorem zRk_of {H H' : zHt} (h : zkeep H H') : zRk H H' := ⟨zkeep_2 h, zWlk_k h⟩
theorem zRk_tr {H H1 H2 : zHt} (h1 : zRk H H1) (h2 : zRk H1 H2) : zRk H H2 := ⟨fun a j q => (h2.1 a j q).trans (h1.1 a j q), fun q => h2.2 (h1.2 q)⟩
theorem zrel2_d {o j : Int} (h : 53 ≤ o ∧ o ≤ 68) : zrel2 o j = true := by
  unfold zrel2
  rw [zrel_o (by omega), decide_eq_false (show ¬ 69 ≤ o by omega)]; rfl
theorem zDa_eq {H H' : zHt} {o A b : Int} (h1 : ∀ j, H' o j = H o j) (h2 : ∀ j, H' (o + 1) j = H (o + 1) j) (h3 : ∀ j, H' A j = H A j) (h : zDa H o A b) : zDa H' o A b := by
  unfold zDa at h ⊢
  simp only [h1, h2, h3]
  exact h
theorem zAllR_k {H H' : zHt} (k : zRk H H') (h : zAllR H) : zAllR H' := by
  obtain ⟨h1, h2, h3, h4, h5, h6⟩ := h
  have k1 := k.1
  refine ⟨?_, ?_, ?_, ?_, ?_, k.2 h6⟩
  · have e1 : ∀ j, H' 40 j = H 40 j := fun j => k1 40 j rfl
    have e2 : ∀ j, H' 41 j = H 41 j := fun j => k1 41 j rfl
    have e3 : ∀ j, H' 82 j = H 82 j := fun j => k1 82 j rfl
    unfold zDk at h1 ⊢
    simp only [e1, e2, e3]
    exact h1
  · rw [k1 32 12 rfl, k1 32 13 rfl, k1 81 32 rfl, k1 81 33 rfl]; exact ⟨h2.1, zM93_k h2.2 (fun j => k1 93 j rfl) (fun j => k1 101 j rfl)⟩
  · have e1 : ∀ j, H' 34 j = H 34 j := fun j => k1 34 j rfl
    have e2 : ∀ j, H' 99 j = H 99 j := fun j => k1 99 j rfl
    unfold zTp at h3 ⊢
    rw [k1 33 8 rfl, k1 81 31 rfl]
    simp only [e1, e2]
    exact h3
  · have e1 : ∀ j, H' 44 j = H 44 j := fun j => k1 44 j rfl
    obtain ⟨a1, a2, a3, a4, a5, a6⟩ := h4
    unfold zAc
    rw [k1 32 11 rfl, k1 81 5 rfl]
    simp only [e1]
    refine ⟨a1, a2, a3, a4, a5, fun i hi => ?_⟩
    obtain ⟨j, hj, ej⟩ := a4 i (by omega)
    exact zDa_eq (fun q => k1 _ _ (zrel2_d (by omega))) (fun q => k1 _ _ (zrel2_d (by omega))) (fun q => k1 84 q rfl) (a6 i hi)
  · have e1 : ∀ j, H' 49 j = H 49 j := fun j => k1 49 j rfl
    have e2 : ∀ j, H' 98 j = H 98 j := fun j => k1 98 j rfl
    unfold zIk at h5 ⊢
    rw [k1 48 1 rfl, k1 81 29 rfl]
    simp only [e1, e2]
    exact h5
-- what the class, what the model may leave behind
def zcf (H0 H : zHt) : Prop := zRk H0 H ∧ H 81 0 = H0 81 0
def zmf (H0 H : zHt) : Prop := zkeep H0 H ∧ H 32 14 = H0 32 14
theorem zcf_rfl {H : zHt} : zcf H H := ⟨zRk_of zkeep_rfl, rfl⟩
theorem zmf_rfl {H : zHt} : zmf H H := ⟨zkeep_rfl, rfl⟩
theorem zcf_tr {H H1 H2 : zHt} (h1 : zcf H H1) (h2 : zcf H1 H2) : zcf H H2 := ⟨zRk_tr h1.1 h2.1, h2.2.trans h1.2⟩
theorem zmf_tr {H H1 H2 : zHt} (h1 : zmf H H1) (h2 : zmf H1 H2) : zmf H H2 := ⟨zkeep_tr h1.1 h2.1, h2.2.trans h1.2⟩
theorem zcf_fc {H0 H H1 : zHt} (h : zcf H0 H) (f : zfc H H1) : zcf H0 H1 := zcf_tr h ⟨zRk_of (zfc_keep f), f 81 0 (by decide) (by decide) (by decide)⟩
theorem zmf_fm {H0 H H1 : zHt} (h : zmf H0 H) (f : zfm H H1) : zmf H0 H1 := zmf_tr h ⟨zfm_keep f, f 32 14 (by decide) (by decide) (by decide)⟩
theorem zcf_up {H0 H : zHt} {o i x : Int} (h : zcf H0 H) (hr : zrel o i = false) (h2 : ¬ (81 = o ∧ 0 = i)) : zcf H0 (zup H o i x) := zcf_tr h ⟨zRk_of (zkeep_up hr zkeep_rfl), zq_ne h2⟩
theorem zmf_up {H0 H : zHt} {o i x : Int} (h : zmf H0 H) (hr : zrel o i = false) (h2 : ¬ (32 = o ∧ 14 = i)) : zmf H0 (zup H o i x) := zmf_tr h ⟨zkeep_up hr zkeep_rfl, zq_ne h2⟩
theorem zcf_at {H0 H : zHt} (h : zcf H0 H) {a j : Int} (q : zrel2 a j = true) : H a j = H0 a j := h.1.1 a j q
theorem zmf_at {H0 H : zHt} (h : zmf H0 H) {a j : Int} (q : zrel a j = true) : H a j = H0 a j := h.1 a j q
/-- how a call of the class ends: its answer A.2, its status A.1 -/
def zPC (H0 : zHt) (A : Int × Int) (x : Int) (H : zHt) : Prop := x = A.2 ∧ zcf H0 H ∧ H 32 14 = A.1
def zPM (H0 : zHt) (A : Int × Int) (x : Int) (H : zHt) : Prop := x = A.2 ∧ zmf H0 H ∧ H 81 0 = A.1
theorem zPC_up {H0 H : zHt} {A : Int × Int} {s x : Int} (h : zcf H0 H) (e : A = (s, x)) : zPC H0 A x (zup H 32 14 s) := by
  subst e; exact ⟨rfl, zcf_up h rfl (by decide), zq_eq⟩
theorem zPM_up {H0 H : zHt} {A : Int × Int} {s x : Int} (h : zmf H0 H) (e : A = (s, x)) : zPM H0 A x (zup H 81 0 s) := by
  subst e; exact ⟨rfl, zmf_up h rfl (by decide), zq_eq⟩
theorem zPM_0 {H0 H : zHt} {A : Int × Int} {x : Int} (h : zmf H0 H) (hs : H 81 0 = 0) (e : A = (0, x)) : zPM H0 A x H := by
  subst e; exact ⟨rfl, h, hs⟩
theorem zPC_r {H0 : zHt} {A : Int × Int} {s : Int} {w : zWt} {d : Nat} {H : zHt} (h : zcf H0 H) (e : A = (s, -1)) : zclI w d 13 [zR 32, zI s] H (fun x H1 => zPC H0 A x H1) := by
  rw [c13]; exact zPC_up h e
theorem zPC_d {H0 : zHt} {A : Int × Int} {x : Int} {w : zWt} {d : Nat} {H : zHt} (h : zcf H0 H) (e : A = (0, x)) : zclI w d 39 [zR 32, zI x] H (fun x H1 => zPC H0 A x H1) := by
  rw [c39]; exact zPC_up h e
theorem zPC_dL {H0 : zHt} {A : Int × Int} {x : Int} {w : zWt} {d : Nat} {H : zHt} (h : zcf H0 H) (e : A = (0, x)) : zclL w d 60 [zR 32, zL x] H (fun x H1 => zPC H0 A x H1) := by
  rw [c60]; exact zPC_up h e
theorem zPM_r {H0 : zHt} {A : Int × Int} {s : Int} {w : zWt} {d : Nat} {H : zHt} (h : zmf H0 H) (e : A = (s, -1)) : zclI w d 178 [zR 81, zI s] H (fun x H1 => zPM H0 A x H1) := by
  rw [c178]; exact zPM_up h e
/-- how the model's call begins: its status -/
def zst (H : zHt) (s : Int) : zHt := zup (zup H 81 1 0) 81 0 s
theorem zst_f {H0 H : zHt} {s : Int} (h : zmf H0 H) : zmf H0 (zst H s) := zmf_up (zmf_up h rfl (by decide)) rfl (by decide)
theorem zst_0 {H : zHt} {s : Int} : zst H s 81 0 = s := zq_eq
theorem zst_at {H : zHt} {s a j : Int} (h : ¬ (a = 81 ∧ (j = 0 ∨ j = 1))) : zst H s a j = H a j := by
  unfold zst
  rw [zq_ne (by omega), zq_ne (by omega)]
theorem zPM_n {H0 H : zHt} {A : Int × Int} {s : Int} (h : zmf H0 H) (e : A = (s, -1)) : zPM H0 A (-1) (zst H s) := zPM_up (zmf_up h rfl (by decide)) e
theorem c174a {w : zWt} {d : Nat} {H : zHt} {K : Int → zHt → Prop} {a : Int} : zclI w d 174 [zR 81, zI a] H K = K (if a = 0 then 1 else 0) (zst H a) := c174
theorem c174_0 {w : zWt} {d : Nat} {H : zHt} {K : Int → zHt → Prop} : zclI w d 174 [zR 81, zI 0] H K = K 1 (zst H 0) := c174
theorem c174_1 {w : zWt} {d : Nat} {H : zHt} {K : Int → zHt → Prop} : zclI w d 174 [zR 81, zI 1] H K = K 0 (zst H 1) := c174
theorem c174_2 {w : zWt} {d : Nat} {H : zHt} {K : Int → zHt → Prop} : zclI w d 174 [zR 81, zI 2] H K = K 0 (zst H 2) := c174
theorem c174_3 {w : zWt} {d : Nat} {H : zHt} {K : Int → zHt → Prop} : zclI w d 174 [zR 81, zI 3] H K = K 0 (zst H 3) := c174
theorem c174_4 {w : zWt} {d : Nat} {H : zHt} {K : Int → zHt → Prop} : zclI w d 174 [zR 81, zI 4] H K = K 0 (zst H 4) := c174
theorem c174_5 {w : zWt} {d : Nat} {H : zHt} {K : Int → zHt → Prop} : zclI w d 174 [zR 81, zI 5] H K = K 0 (zst H 5) := c174
-- yes and no as 1 and 0
theorem zit0 {P : Prop} {i : Decidable P} : ((if P then (1 : Int) else 0) = 0) = ¬ P := by
  by_cases h : P
  · rw [if_pos h]; simp [h]
  · rw [if_neg h]; simp [h]
theorem z00a {A B : Prop} : (((0 : Int) = 0 → B) ∧ (¬ (0 : Int) = 0 → A)) = B := propext ⟨fun q => q.1 rfl, fun q => ⟨fun _ => q, fun z => absurd rfl z⟩⟩
theorem z00b {A B : Prop} : ((¬ (0 : Int) = 0 → A) ∧ ((0 : Int) = 0 → B)) = B := propext ⟨fun q => q.2 rfl, fun q => ⟨fun z => absurd rfl z, fun _ => q⟩⟩
theorem z10a {A B : Prop} : (((1 : Int) = 0 → A) ∧ (¬ (1 : Int) = 0 → B)) = B := propext ⟨fun q => q.2 (by decide), fun q => ⟨fun z => absurd z (by decide), fun _ => q⟩⟩
theorem z10b {A B : Prop} : ((¬ (1 : Int) = 0 → B) ∧ ((1 : Int) = 0 → A)) = B := propext ⟨fun q => q.1 (by decide), fun q => ⟨fun _ => q, fun z => absurd z (by decide)⟩⟩
/-- a case of the law: the class's call, then the model's -/
def zcon (A : zHt → Int × Int) : Prop := ∀ H H1, zkeep2 H H1 → A H1 = A H
theorem zcaseI {w : zWt} {d1 d2 tc tm : Nat} {as bs : List zV} {H : zHt} {A : zHt → Int × Int} {N M : Int → Int → zHt → Prop} (hA : zcon A) (hR : zKept zAllR H) (hC : zDk H → zWlk H → zclI w d1 tc as H (zPC H (A H))) (hM : ∀ H1, zDk H1 → zclI w d2 tm bs H1 (zPM H1 (A H1))) (nx : ∀ x y H', zKept zAllR H' → x = y → N x y H') : zclI w d1 tc as H (fun x H1 => zclI w d2 tm bs H1 (fun y H2 => (x = y → N x y H2) ∧ (¬ x = y → M x y H2))) := by
  refine zclI_mono (hC hR.2.1 hR.2.2.2.2.2.2) (fun x H1 q1 => ?_)
  have r1 : zAllR H1 := zAllR_k q1.2.1.1 hR.2
  refine zclI_mono (hM H1 r1.1) (fun y H2 q2 => ?_)
  have e := hA H H1 q1.2.1.1.1
  have exy : x = y := by rw [q1.1, q2.1, e]
  refine ⟨fun _ => nx x y H2 ⟨?_, zAllR_k (zRk_of q2.2.1.1) r1⟩ exy, fun z => absurd exy z⟩
  rw [q2.2.1.2, q1.2.2, q2.2.2, e]
theorem zcaseL {w : zWt} {d1 d2 tc tm : Nat} {as bs : List zV} {H : zHt} {A : zHt → Int × Int} {N M : Int → Int → zHt → Prop} (hA : zcon A) (hR : zKept zAllR H) (hC : zDk H → zWlk H → zclL w d1 tc as H (zPC H (A H))) (hM : ∀ H1, zDk H1 → zclL w d2 tm bs H1 (zPM H1 (A H1))) (nx : ∀ x y H', zKept zAllR H' → x = y → N x y H') : zclL w d1 tc as H (fun x H1 => zclL w d2 tm bs H1 (fun y H2 => (x = y → N x y H2) ∧ (¬ x = y → M x y H2))) := by
  refine zclL_mono (hC hR.2.1 hR.2.2.2.2.2.2) (fun x H1 q1 => ?_)
  have r1 : zAllR H1 := zAllR_k q1.2.1.1 hR.2
  refine zclL_mono (hM H1 r1.1) (fun y H2 q2 => ?_)
  have e := hA H H1 q1.2.1.1.1
  have exy : x = y := by rw [q1.1, q2.1, e]
  refine ⟨fun _ => nx x y H2 ⟨?_, zAllR_k (zRk_of q2.2.1.1) r1⟩ exy, fun z => absurd exy z⟩
  rw [q2.2.1.2, q1.2.2, q2.2.2, e]
theorem zi1 {m : Nat} (h : m ≤ 2000000000) : w32 ((m : Int) + 1) = ((m + 1 : Nat) : Int) := w32_id (by omega)
/-- looking for the k-th -/
def zsk (P : Nat → Bool) (hit fin : Nat → Int × Int) (k : Int) : Nat → Nat → Nat → Int × Int
  | 0, _, f => fin f
  | n + 1, m, f => if P m = true then (if (f : Int) = k then hit m else zsk P hit fin k n (m + 1) (f + 1)) else zsk P hit fin k n (m + 1) f
section Z39
variable {w : zWt} {d : Nat} {H : zHt} {K : Int → zHt → Prop}
theorem c81 {a b g : Int} : zclI w (d + 1) 81 [zI a, zI b, zI g] H K = K (if (1 ≤ a ∧ a ≤ 999999999) ∧ (1 ≤ b ∧ b ≤ 999999999) ∧ a ≤ b ∧ b - a ≤ g then 1 else 0) H := zclI_eq fun K h => x81_0 (by
  simp only [c43, zit0, Classical.not_not]
  refine ⟨fun q => by rwa [if_neg (by omega)] at h, fun q => ⟨fun q2 => by rwa [if_neg (by omega)] at h, fun q2 => ⟨fun q3 => by rwa [if_neg (by omega)] at h, fun q3 => ?_⟩⟩⟩
  rw [w32_id (by omega)]
  exact ⟨fun q4 => by rwa [if_neg (by omega)] at h, fun q4 => by rwa [if_pos (by omega)] at h⟩)
theorem c201 {a b g : Int} : zclI w (d + 2) 201 [zI a, zI b, zI g] H K = K (if (1 ≤ a ∧ a ≤ 999999999) ∧ (1 ≤ b ∧ b ≤ 999999999) ∧ a ≤ b ∧ b - a ≤ g then 1 else 0) H := zclI_eq fun K h => x201_0 (by
  simp only [c176, c173, zit0, Classical.not_not]
  refine ⟨fun q => by rwa [if_neg (by omega)] at h, fun q => ⟨fun q2 => by rwa [if_neg (by omega)] at h, fun q2 => ?_⟩⟩
  rw [w32_id (by omega)]
  exact ⟨fun q3 => by rwa [if_neg (by omega)] at h, fun q3 => by rwa [if_pos (by omega)] at h⟩)
theorem c82 {k f : Int} : zclI w (d + 1) 82 [zR 32, zI k, zI f] H K = K (if k = -1 then f else -1) (zup H 32 14 (if k = -1 then 0 else 5)) := zclI_eq fun K h => x82_0 (by
  simp only [c13, c39]
  exact ⟨fun q => by rwa [if_neg q, if_neg q] at h, fun q => by rwa [if_pos q, if_pos q] at h⟩)
theorem zPC_82 {H0 : zHt} {A : Int × Int} {k f : Int} (h : zcf H0 H) (e : A = if k = -1 then (0, f) else (5, -1)) : zclI w (d + 1) 82 [zR 32, zI k, zI f] H (fun x H1 => zPC H0 A x H1) := by
  rw [c82]
  by_cases z : k = -1
  · rw [if_pos z, if_pos z]; rw [if_pos z] at e; exact zPC_up h e
  · rw [if_neg z, if_neg z]; rw [if_neg z] at e; exact zPC_up h e
end Z39
