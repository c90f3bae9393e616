/-! the case depth: both -/
def zMk (H : zHt) (l : List Nat) : Prop := ∀ x : Nat, x ≤ 2000 → H 93 x = if x ∈ l then 1 else 0
section Z74g
variable {w : zWt} {d : Nat} {H : zHt}
theorem c218 {law : Int} {n m : Nat} (hm : m ≤ 500) (hn : n ≤ 2000) : ∀ (F d c : Nat) (r : List Nat) (H : zHt) (K : Int → zHt → Prop), F ≤ d → F + r.length = m + 1 → zStk (zsum law) n m (c :: r) → zTab H law m → zMk H r → K ((zDp (zsum law) n m F c : Nat) : Int) H → zclI w d 218 [zR 81, zI c, zI m] H K := by
  intro F
  induction F with
  | zero =>
    intro d c r H K hd hF hS hT hM hK
    have := zStk_len hS
    rw [List.length_cons] at this
    omega
  | succ F ih =>
    intro d c r H K hd hF hS hT hM hK
    obtain ⟨d, rfl⟩ : ∃ d', d = d' + 1 := ⟨d - 1, by omega⟩
    obtain ⟨nd, mem, last⟩ := zStk_nd hS
    have hc : c ≤ 2000 := by
      rcases mem c List.mem_cons_self with z | z <;> omega
    have hcr : c ∉ r := (List.nodup_cons.mp nd).1
    have hMk : zMk (zup H 93 (c : Int) 1) (c :: r) := fun x hx => by
      by_cases z : x = c
      · subst z
        rw [zq_eq, if_pos List.mem_cons_self]
      · rw [zq_ne (by omega), hM x hx]
        by_cases y : x ∈ r
        · rw [if_pos y, if_pos (List.mem_cons_of_mem _ y)]
        · rw [if_neg y, if_neg (fun q => by
            rcases List.mem_cons.mp q with q | q
            · exact z q
            · exact y q)]
    have hTk : zTab (zup H 93 (c : Int) 1) law m := fun i i1 i2 => by rw [zq_ne (by omega)]; exact hT i i1 i2
    have hback : zup (zup H 93 (c : Int) 1) 93 (c : Int) 0 = H := by
      funext a j
      by_cases z : a = 93 ∧ j = (c : Int)
      · obtain ⟨rfl, rfl⟩ := z
        rw [zq_eq, hM c hc, if_neg hcr]
      · rw [zq_ne z, zq_ne z]
    generalize hH1 : zup H 93 (c : Int) 1 = H1 at hMk hTk hback
    have L : ∀ (k j : Nat), j + k = m → zgo w (d + 1) 218 12 [zR 81, zI c, zI m, zI ((zmxo (fun b => if zsum law b = (c : Int) ∧ b ≠ c then 1 + (if b = n then 0 else zDp (zsum law) n m F b) else 0) j : Nat) : Int), zI ((j + 1 : Nat) : Int), zJ] [] H1 (zQI K) := by
      intro k
      induction k with
      | zero =>
        intro j hj
        have : j = m := by omega
        subst this
        refine x218_12 ⟨fun _ => ⟨by omega, ?_⟩, fun q => by omega⟩
        rw [hback]; exact hK
      | succ k ih2 =>
        intro j hj
        have nx := ih2 (j + 1) (by omega)
        have ef : ∀ y : Nat, (if zsum law (j + 1) = (c : Int) ∧ j + 1 ≠ c then 1 + (if j + 1 = n then 0 else zDp (zsum law) n m F (j + 1)) else 0) = y → zmxo (fun b => if zsum law b = (c : Int) ∧ b ≠ c then 1 + (if b = n then 0 else zDp (zsum law) n m F b) else 0) (j + 1) = if zmxo (fun b => if zsum law b = (c : Int) ∧ b ≠ c then 1 + (if b = n then 0 else zDp (zsum law) n m F b) else 0) j < y then y else zmxo (fun b => if zsum law b = (c : Int) ∧ b ≠ c then 1 + (if b = n then 0 else zDp (zsum law) n m F b) else 0) j := fun y hy => by
          rw [← hy]; rfl
        refine x218_12 ⟨fun q => by omega, fun _ => ⟨by omega, ?_⟩⟩
        rw [hTk (j + 1) (by omega) (by omega), zi1 (by omega)]
        refine ⟨fun q => ?_, fun q => ⟨fun q2 => ⟨fun q3 => ?_, fun q3 => ?_⟩, fun q2 => ?_⟩⟩
        · rw [ef 0 (if_neg (fun z => q z.1)), if_neg (by omega)] at nx
          exact nx
        · have hnm : j + 1 ∉ c :: r := fun z => by
            rw [hMk (j + 1) (by omega), if_pos z] at q3
            exact absurd q3 (by decide)
          have hjn : j + 1 ≠ n := fun z => hnm (by rw [z]; exact last)
          have hle : zDp (zsum law) n m F (j + 1) ≤ F := zDp_le
          rw [ef (1 + zDp (zsum law) n m F (j + 1)) (by rw [if_pos ⟨q, by omega⟩, if_neg hjn])] at nx
          refine ih d (j + 1) (c :: r) H1 _ (by omega) (by rw [List.length_cons]; omega) ⟨by omega, q, hnm, hS⟩ hTk hMk ?_
          rw [show w32 (1 + ((zDp (zsum law) n m F (j + 1) : Nat) : Int)) = ((1 + zDp (zsum law) n m F (j + 1) : Nat) : Int) by rw [w32_id (by omega)]; omega]
          refine ⟨fun q4 => ?_, fun q4 => ?_⟩
          · rw [if_neg (by omega)] at nx; exact nx
          · rw [if_pos (by omega)] at nx; exact nx
        · have hm1 : j + 1 ∈ c :: r := by
            by_cases z : j + 1 ∈ c :: r
            · exact z
            · rw [hMk (j + 1) (by omega), if_neg z] at q3
              exact absurd rfl q3
          have hmr : j + 1 ∈ r := by
            rcases List.mem_cons.mp hm1 with z | z
            · omega
            · exact z
          have hjn : j + 1 = n := by
            by_cases z : j + 1 = n
            · exact z
            · obtain ⟨y, hy, e⟩ := zStk_in hS hmr z
              have : y = c := by omega
              subst this
              exact absurd hy hcr
          rw [ef (1 + 0) (by rw [if_pos ⟨q, by omega⟩, if_pos hjn])] at nx
          rw [show w32 (1 + 0) = ((1 + 0 : Nat) : Int) by rw [w32_id (by omega)]; rfl]
          refine ⟨fun q4 => ?_, fun q4 => ?_⟩
          · rw [if_neg (by omega)] at nx; exact nx
          · rw [if_pos (by omega)] at nx; exact nx
        · rw [ef 0 (if_neg (fun z => z.2 (by omega))), if_neg (by omega)] at nx
          exact nx
    refine x218_0 ⟨by omega, ?_⟩
    rw [hH1]
    exact L m 0 (by omega)
/-- the class's table of sums -/
def zcT (H : zHt) (law : Int) (m : Nat) : Prop := ∀ i : Nat, 1 ≤ i → i ≤ m → H 50 i = zsum law i
theorem c100l {H0 : zHt} {m : Nat} (hMR : zMR) (hD : zDk H0) (hm : m ≤ 500) : ∀ (c k : Nat) (H : zHt), k + c = m → zcf H0 H → zcT H (H0 40 4) k → zgo w (d + 5) 100 2 [zR 32, zI m, zI ((k + 1 : Nat) : Int)] [] H (zQV fun H' => zcf H0 H' ∧ zcT H' (H0 40 4) m) := by
  intro c
  induction c with
  | zero =>
    intro k H hk hf hT
    have : k = m := by omega
    subst this
    exact x100_2 ⟨fun _ => ⟨hf, hT⟩, fun q => by omega⟩
  | succ c ih =>
    intro k H hk hf hT
    have el : H 40 4 = H0 40 4 := zcf_at hf rfl
    obtain ⟨H1, g, e⟩ := c52 (w := w) (d := d) (H := H) (n := k + 1) hMR (by omega) (by omega) (by rw [el]; exact hD.1)
    refine x100_2 ⟨fun q => by omega, fun _ => ⟨fun q => by omega, fun _ => ?_⟩⟩
    rw [e, zi1 (by omega), el]
    refine ⟨by omega, ih (k + 1) _ (by omega) (zcf_up (zcf_fc hf g) rfl (by omega)) (fun i i1 i2 => ?_)⟩
    by_cases z : i = k + 1
    · subst z; rw [zq_eq]
    · rw [zq_ne (by omega), g 50 i (by decide) (by decide) (by omega)]
      exact hT i i1 (by omega)
theorem c100 {m : Nat} (hMR : zMR) (hD : zDk H) (hm : m ≤ 500) : ∃ H', (zcf H H' ∧ zcT H' (H 40 4) m) ∧ ∀ K : zHt → Prop, zclV w (d + 5) 100 [zR 32, zI m] H K = K H' :=
  zclV_ex (x100_0 (c100l hMR hD hm m 0 H (by omega) zcf_rfl (fun i i1 i2 => by omega)))
theorem c101l {law : Int} {n m : Nat} {K : Int → zHt → Prop} (hm : m ≤ 500) (hT : zcT H law m) : ∀ (c k t : Nat), t + c = m + 2 → 1 ≤ t → 1 ≤ k → k ≤ m → K ((zwgo (zsum law) n m c k t : Nat) : Int) H → zgo w d 101 7 [zR 32, zI n, zJ, zI m, zL k, zJ, zI t, zJ, zJ] [] H (zQI K) := by
  intro c
  induction c with
  | zero =>
    intro k t ht t1 k1 k2 hK
    refine x101_7 ⟨fun _ => hK, fun q => ?_⟩
    rw [w32_id (by omega)] at q
    omega
  | succ c ih =>
    intro k t ht t1 k1 k2 hK
    unfold zwgo at hK
    refine x101_7 ⟨fun q => by rw [w32_id (by omega)] at q; omega, fun _ => ?_⟩
    rw [w32_id (show _ ≤ (k : Int) ∧ _ by omega), hT k k1 k2, zi1 (by omega)]
    refine ⟨by omega, fun q => ⟨fun q2 => ⟨fun q3 => ?_, fun q3 => ⟨fun q4 => ?_, fun q4 => ?_⟩⟩, fun q2 => ?_⟩, fun q => ?_⟩
    · rw [if_neg q, if_neg q2, if_pos (Or.inl q3)] at hK; exact hK
    · rw [if_neg q, if_neg q2, if_neg (by omega)] at hK
      have e : zsum law k = (((zsum law k).toNat : Nat) : Int) := by omega
      rw [e]
      exact ih (zsum law k).toNat (t + 1) (by omega) (by omega) (by omega) (by omega) hK
    · rw [if_neg q, if_neg q2, if_pos (Or.inr q4)] at hK; exact hK
    · rw [if_neg q, if_pos q2] at hK; exact hK
    · rw [if_pos q] at hK; exact hK
theorem c101 {law : Int} {n m k : Nat} {K : Int → zHt → Prop} (hm : m ≤ 500) (hT : zcT H law m) (k1 : 1 ≤ k) (k2 : k ≤ m) : zclI w d 101 [zR 32, zI n, zI k, zI m] H K = K ((zwgo (zsum law) n m (m + 1) k 1 : Nat) : Int) H :=
  zclI_eq fun K hK => x101_0 (c101l hm hT (m + 1) k 1 (by omega) (by omega) k1 k2 hK)
end Z74g
noncomputable def zAdep (law v m : Int) : Int × Int := if (0 ≤ v ∧ v ≤ 2000) ∧ 1 ≤ m ∧ m ≤ 500 then (0, ((zDp (zsum law) v.toNat m.toNat (m.toNat + 1) v.toNat : Nat) : Int)) else (1, -1)
section Z74h
variable {w : zWt} {d : Nat} {H : zHt}
theorem b99l {H0 : zHt} {law : Int} {n m : Nat} {A : Int × Int} (hm : m ≤ 500) (hF : zcf H0 H) (hT : zcT H law m) (hA : A = (0, ((zmxo (fun i => zwgo (zsum law) n m (m + 1) i 1) m : Nat) : Int))) : ∀ (c k : Nat), k + c = m → zgo w (d + 1) 99 39 [zR 32, zI n, zI m, zI ((zmxo (fun i => zwgo (zsum law) n m (m + 1) i 1) k : Nat) : Int), zI ((k + 1 : Nat) : Int)] [] H (zQI (zPC H0 A)) := by
  intro c
  induction c with
  | zero =>
    intro k hk
    have : k = m := by omega
    subst this
    exact x99_39 ⟨fun _ => zPC_d hF hA, fun q => by omega⟩
  | succ c ih =>
    intro k hk
    have nx := ih (k + 1) (by omega)
    refine x99_39 ⟨fun q => by omega, fun _ => ?_⟩
    rw [c101 hm hT (by omega) (by omega), zi1 (by omega)]
    rw [show ((zmxo (fun i => zwgo (zsum law) n m (m + 1) i 1) (k + 1) : Nat) : Int) = (if ((zmxo (fun i => zwgo (zsum law) n m (m + 1) i 1) k : Nat) : Int) < ((zwgo (zsum law) n m (m + 1) (k + 1) 1 : Nat) : Int) then ((zwgo (zsum law) n m (m + 1) (k + 1) 1 : Nat) : Int) else ((zmxo (fun i => zwgo (zsum law) n m (m + 1) i 1) k : Nat) : Int)) by
      show ((if zmxo (fun i => zwgo (zsum law) n m (m + 1) i 1) k < zwgo (zsum law) n m (m + 1) (k + 1) 1 then zwgo (zsum law) n m (m + 1) (k + 1) 1 else zmxo (fun i => zwgo (zsum law) n m (m + 1) i 1) k : Nat) : Int) = _
      by_cases z : zmxo (fun i => zwgo (zsum law) n m (m + 1) i 1) k < zwgo (zsum law) n m (m + 1) (k + 1) 1
      · rw [if_pos z, if_pos (by omega)]
      · rw [if_neg z, if_neg (by omega)]] at nx
    exact nx
theorem b99 {v m : Int} (hMR : zMR) (hD : zDk H) : zclI w (d + 6) 99 [zR 32, zI v, zI m] H (zPC H (zAdep (H 40 4) v m)) := by
  unfold zAdep
  by_cases hg : (0 ≤ v ∧ v ≤ 2000) ∧ 1 ≤ m ∧ m ≤ 500
  · rw [if_pos hg]
    obtain ⟨a, rfl⟩ : ∃ a : Nat, v = a := ⟨v.toNat, by omega⟩
    obtain ⟨b, rfl⟩ : ∃ b : Nat, m = b := ⟨m.toNat, by omega⟩
    rw [Int.toNat_natCast, Int.toNat_natCast]
    obtain ⟨H1, ⟨F1, T1⟩, e⟩ := c100 (w := w) (d := d) (H := H) (m := b) hMR hD (by omega)
    refine x99_0 ⟨fun q => by omega, fun _ => ⟨fun q => by omega, fun _ => ⟨fun q => by omega, fun _ => ⟨fun _ => ?_, fun q => by omega⟩⟩⟩⟩
    rw [e]
    exact b99l (by omega) F1 T1 (by rw [zDp_both]) b 0 (by omega)
  · have eA : (1, -1) = ((1 : Int), (-1 : Int)) := rfl
    rw [if_neg hg]
    refine x99_0 ?_
    repeat' (first | exact zPC_r zcf_rfl eA | omega | intro _ | with_reducible refine And.intro ?_ ?_)
theorem b217 {v m : Int} (hR : zAllR H) (hd : 600 ≤ d) : zclI w (d + 1) 217 [zR 81, zI v, zI m] H (zPM H (zAdep (H 40 4) v m)) := by
  obtain ⟨d, rfl⟩ : ∃ d', d = d' + 4 := ⟨d - 4, by omega⟩
  have hD := hR.1
  unfold zAdep
  by_cases hg : (0 ≤ v ∧ v ≤ 2000) ∧ 1 ≤ m ∧ m ≤ 500
  · rw [if_pos hg]
    obtain ⟨a, rfl⟩ : ∃ a : Nat, v = a := ⟨v.toNat, by omega⟩
    obtain ⟨b, rfl⟩ : ∃ b : Nat, m = b := ⟨m.toNat, by omega⟩
    rw [Int.toNat_natCast, Int.toNat_natCast]
    obtain ⟨H1, ⟨f, hT⟩, e⟩ := c205 (w := w) (H := zst H 0) (d := d) (M := b) (by omega)
    have el : zst H 0 82 9 = H 40 4 := (zst_at (by decide)).trans hD.2.1
    rw [el] at hT
    refine x217_0 ?_
    rw [c173, if_pos hg.1]
    refine ⟨fun q => absurd q (by decide), fun _ => ?_⟩
    rw [c173, if_pos hg.2]
    refine ⟨fun q => absurd q (by decide), fun _ => ?_⟩
    rw [c174_0]
    refine ⟨fun _ => ?_, fun q => absurd q (by decide)⟩
    rw [e]
    refine c218 (law := H 40 4) (n := a) (by omega) (by omega) (b + 1) (d + 4) a [] H1 _ (by omega) rfl rfl hT (fun x hx => ?_) ?_
    · rw [f 93 x (by decide) (by decide) (by decide) (by omega), zst_at (by omega), hR.2.1.2.1 x (by omega) (by omega)]
      rfl
    · exact zPM_0 (zmf_fs (zst_f zmf_rfl) f) (by rw [f 81 0 (by decide) (by decide) (by decide) (by decide)]; rfl) rfl
  · rw [if_neg hg]
    refine x217_0 ?_
    rw [c173]
    by_cases h1 : 0 ≤ v ∧ v ≤ 2000
    · rw [if_pos h1]
      refine ⟨fun q => absurd q (by decide), fun _ => ?_⟩
      rw [c173, if_neg (fun q => hg ⟨h1, q⟩)]
      refine ⟨fun _ => ?_, fun q => absurd rfl q⟩
      rw [c174_1]
      exact ⟨fun q => absurd rfl q, fun _ => zPM_n zmf_rfl rfl⟩
    · rw [if_neg h1]
      refine ⟨fun _ => ?_, fun q => absurd rfl q⟩
      rw [c174_1]
      exact ⟨fun q => absurd rfl q, fun _ => zPM_n zmf_rfl rfl⟩
end Z74h
theorem zcaseI2 {w : zWt} {d1 d2 tc tm : Nat} {as bs : List zV} {H : zHt} {A : zHt → Int × Int} {N M : Int → Int → zHt → Prop} (hA : zcon A) (hR : zKept zAllR H) (hC : zDk H → zWlk H → zclI w d1 tc as H (zPC H (A H))) (hM : ∀ H1, zAllR H1 → zclI w d2 tm bs H1 (zPM H1 (A H1))) (nx : ∀ x y H', zKept zAllR H' → x = y → N x y H') : zclI w d1 tc as H (fun x H1 => zclI w d2 tm bs H1 (fun y H2 => (x = y → N x y H2) ∧ (¬ x = y → M x y H2))) := by
  refine zclI_mono (hC hR.2.1 hR.2.2.2.2.2.2) (fun x H1 q1 => ?_)
  have r1 : zAllR H1 := zAllR_k q1.2.1.1 hR.2
  refine zclI_mono (hM H1 r1) (fun y H2 q2 => ?_)
  have e := hA H H1 q1.2.1.1.1
  have exy : x = y := by rw [q1.1, q2.1, e]
  refine ⟨fun _ => nx x y H2 ⟨?_, zAllR_k (zRk_of q2.2.1.1) r1⟩ exy, fun z => absurd exy z⟩
  rw [q2.2.1.2, q1.2.2, q2.2.2, e]
theorem l1058 {w : zWt} (hw : w.1 ≤ 3072) (hMR : zMR) : zLaw w (zKept zAllR) 1058 := fun H i hi hR K nx => x0_1058 (d := 1999) (by
  refine ⟨zidx hw hi (by decide) (by decide), zidx hw hi (by decide) (by decide), ?_⟩
  generalize zH0 w.2 0 (w32 ((i : Int) + 1)) = v1
  generalize zH0 w.2 0 (w32 ((i : Int) + 2)) = v2
  exact zcaseI2 (A := fun H => zAdep (H 40 4) v1 v2) (fun H H1 h => by simp only [h 40 4 rfl]) hR (fun hD hW => b99 (d := 1993) hMR hD) (fun H1 h1 => b217 (d := 1998) h1 (by decide)) (fun x y H' hk e => nx H' hk))
