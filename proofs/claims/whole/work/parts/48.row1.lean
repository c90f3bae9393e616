/-! the cases value, ends, round, peak, climb, total, growth -/
theorem zArr_i {H : zHt} {A k : Int} {l : List Int} (h : zArr H A l) (h0 : 0 ≤ k) (h1 : k < l.length) : H A k = l.getD k.toNat 0 := by
  have := h k.toNat (by omega)
  rw [Int.toNat_of_nonneg h0] at this
  exact this
def zfval (k : Int) (r : List Int × Int × Int) : Int × Int := if k = -1 then (0, (r.1.length : Int)) else if k < r.1.length then (0, r.1.getD k.toNat 0) else (5, -1)
def zfend (r : List Int × Int × Int) : Int × Int := (0, r.2.1)
/-- the least of c values from k on, and m -/
def zmnl (vs : List Int) : Nat → Nat → Int → Int
  | 0, _, m => m
  | c + 1, k, m => zmnl vs c (k + 1) (if vs.getD k 0 < m then vs.getD k 0 else m)
theorem zmnl_le {vs : List Int} : ∀ {c k : Nat} {m : Int}, zmnl vs c k m ≤ m ∧ (∀ i, k ≤ i → i < k + c → zmnl vs c k m ≤ vs.getD i 0) ∧ (zmnl vs c k m = m ∨ ∃ i, k ≤ i ∧ i < k + c ∧ zmnl vs c k m = vs.getD i 0)
  | 0, k, m => ⟨Int.le_refl _, fun i h1 h2 => by omega, Or.inl rfl⟩
  | c + 1, k, m => by
    obtain ⟨h1, h2, h3⟩ := zmnl_le (vs := vs) (c := c) (k := k + 1) (m := if vs.getD k 0 < m then vs.getD k 0 else m)
    have e : zmnl vs (c + 1) k m = zmnl vs c (k + 1) (if vs.getD k 0 < m then vs.getD k 0 else m) := rfl
    rw [← e] at h1 h2 h3
    have hk : zmnl vs (c + 1) k m ≤ vs.getD k 0 ∧ zmnl vs (c + 1) k m ≤ m := by
      by_cases z : vs.getD k 0 < m
      · rw [if_pos z] at h1; omega
      · rw [if_neg z] at h1; omega
    refine ⟨hk.2, fun i i1 i2 => ?_, ?_⟩
    · by_cases z : i = k
      · subst z; exact hk.1
      · exact h2 i (by omega) (by omega)
    · rcases h3 with z | ⟨i, i1, i2, i3⟩
      · by_cases y : vs.getD k 0 < m
        · rw [if_pos y] at z; exact Or.inr ⟨k, Nat.le_refl _, by omega, z⟩
        · rw [if_neg y] at z; exact Or.inl z
      · exact Or.inr ⟨i, by omega, by omega, i3⟩
theorem zmnl_eq {vs : List Int} {c k i j : Nat} (hi : k ≤ i ∧ i < k + c) (hj : k ≤ j ∧ j < k + c) : zmnl vs c k (vs.getD i 0) = zmnl vs c k (vs.getD j 0) := by
  obtain ⟨a1, a2, a3⟩ := zmnl_le (vs := vs) (c := c) (k := k) (m := vs.getD i 0)
  obtain ⟨b1, b2, b3⟩ := zmnl_le (vs := vs) (c := c) (k := k) (m := vs.getD j 0)
  apply Int.le_antisymm
  · rcases b3 with z | ⟨x, x1, x2, x3⟩
    · rw [z]; exact a2 j hj.1 hj.2
    · rw [x3]; exact a2 x x1 x2
  · rcases a3 with z | ⟨x, x1, x2, x3⟩
    · rw [z]; exact b2 i hi.1 hi.2
    · rw [x3]; exact b2 x x1 x2
def zlor (r : List Int × Int × Int) : Int := zmnl r.1 (r.1.length - r.2.2.toNat) r.2.2.toNat (r.1.getD r.2.2.toNat 0)
def zfrnd (t : Int) (r : List Int × Int × Int) : Int × Int := if r.2.1 = 1 then (0, if t = 0 then r.2.2 else if t = 1 then (r.1.length : Int) - r.2.2 else zlor r) else (5, -1)
def zpk (vs : List Int) : Nat → Nat → Nat → Nat
  | 0, _, p => p
  | c + 1, k, p => zpk vs c (k + 1) (if vs.getD p 0 < vs.getD k 0 then k else p)
theorem zpk_lt {vs : List Int} : ∀ {c k p : Nat}, p < k → zpk vs c k p < k + c
  | 0, k, p, h => h
  | c + 1, k, p, h => by
    have := zpk_lt (vs := vs) (c := c) (k := k + 1) (p := if vs.getD p 0 < vs.getD k 0 then k else p) (by split <;> omega)
    have e : zpk vs (c + 1) k p = zpk vs c (k + 1) (if vs.getD p 0 < vs.getD k 0 then k else p) := rfl
    rw [e]; omega
def zfpk (t : Int) (r : List Int × Int × Int) : Int × Int := (0, if t = 0 then r.1.getD (zpk r.1 (r.1.length - 1) 1 0) 0 else (zpk r.1 (r.1.length - 1) 1 0 : Int))
/-- where a climb comes to its end -/
def zcu (vs : List Int) : Nat → Nat → Nat
  | 0, k => k
  | c + 1, k => if vs.getD (k - 1) 0 < vs.getD k 0 then zcu vs c (k + 1) else k
def zcf1 (vs : List Int) (f : Nat) : Nat := zcu vs (vs.length - (f + 1)) (f + 1) - f
def zcb (vs : List Int) : Nat → Nat → Nat → Nat
  | 0, _, b => b
  | c + 1, k, b => zcb vs c (k + 1) (if zcf1 vs b < zcf1 vs k then k else b)
def zfcl (t : Int) (r : List Int × Int × Int) : Int × Int := (0, if t = 0 then (zcf1 r.1 (zcb r.1 (r.1.length - 1) 1 0) : Int) else (zcb r.1 (r.1.length - 1) 1 0 : Int))
noncomputable def ztx (t v : Int) : Int := if t = 0 then v else if t = 1 then Int.tmod v 2 else zisp v.toNat
noncomputable def zto (t : Int) : List Int → Int
  | [] => 0
  | v :: l => ztx t v + zto t l
noncomputable def zftot (t : Int) (r : List Int × Int × Int) : Int × Int := (0, zto t r.1)
def zfgr (k : Int) (r : List Int × Int × Int) : Int × Int := if k + 1 < r.1.length then (0, w32 (w64 (Int.tdiv (w64 (1000 * r.1.getD (k + 1).toNat 0)) (r.1.getD k.toNat 0)))) else (5, -1)
theorem zfac_0 : zfac 0 = [] := by
  unfold zfac
  rw [dif_neg]
  intro h
  obtain ⟨l, h1, h2, h3⟩ := h
  have := zprod_pos h2
  omega
section Z48
variable {w : zWt} {d : Nat} {H : zHt}
theorem c45z : zclV w (d + 2) 45 [zR 36, zI 0] H (fun H1 => zfc H H1 ∧ H1 36 3 = 0) := by
  refine x45_0 (x45_9 ⟨fun q => by omega, fun _ => ⟨by omega, fun _ => ?_, fun q => ?_⟩⟩)
  · exact x45_49 ⟨fun _ => ⟨fun _ => ⟨zfc_0 zfc_rfl, zq_eq⟩, fun q => by omega⟩, fun q => by omega⟩
  · exfalso
    have e : zH0 w.2 1 0 = 2 := rfl
    rw [e] at q
    exact absurd q (by decide)
theorem c103a {n : Nat} (hMR : zMR) (hn : n ≤ 999999999) : ∃ H', zfc H H' ∧ ∀ K : Int → zHt → Prop, zclI w (d + 3) 103 [zR 36, zI n] H K = K (zisp n) H' := by
  by_cases h : n = 0
  · subst h
    obtain ⟨H1, ⟨f, hc⟩, e⟩ := zclV_ex (c45z (w := w) (d := d) (H := H))
    refine ⟨H1, f, fun K => zclI_eq fun K h => x103_0 ?_⟩
    show zclV w (d + 2) 45 [zR 36, zI 0] H _
    rw [e, hc]
    exact ⟨fun _ => h, fun q => by omega⟩
  · exact c103 hMR (by omega) hn
-- value
theorem b107 {r k : Int} (hMR : zMR) (hD : zDk H) (hW : zWlk H) : zclI w (d + 6) 107 [zR 32, zI r, zI k] H (zPC H (zAr H (decide (-1 ≤ k)) r (zfval k))) := by
  have h6 := hD.2.2.2.2.2.1
  unfold zAr
  by_cases hg : -1 ≤ k
  · rw [if_pos (decide_eq_true hg)]
    by_cases hr : 0 ≤ r ∧ r < H 40 1
    · rw [if_pos hr]
      refine x107_0 ?_
      simp only [c106 h6.2, zit0, Classical.not_not]
      refine ⟨fun _ => ⟨fun _ => zwalk hMR hD hW hr (fun o H1 ho _ hF hw => ?_), fun q => absurd hr q⟩, fun q => by omega⟩
      have ok := zRW_ok hMR hD hr
      obtain ⟨w1, w2, w3, w4⟩ := hw
      unfold zfval
      rw [w1]
      refine ⟨fun q => ⟨fun q2 => ?_, fun q2 => ⟨?_, ?_⟩⟩, fun q => ?_⟩
      · exact zPC_r hF (by rw [if_neg q, if_neg (by omega)])
      · have := ok.2.1; omega
      · rw [zArr_i w4 (by omega) q2]
        exact zPC_d hF (by rw [if_neg q, if_pos q2])
      · exact zPC_d hF (by rw [if_pos q])
    · have eA : (2, -1) = ((2 : Int), (-1 : Int)) := rfl
      rw [if_neg hr]
      refine x107_0 ?_
      simp only [c106 h6.2, zit0, Classical.not_not]
      exact ⟨fun _ => ⟨fun q => absurd q hr, fun _ => zPC_r zcf_rfl eA⟩, fun q => by omega⟩
  · have eA : (1, -1) = ((1 : Int), (-1 : Int)) := rfl
    rw [decide_eq_false hg, if_neg (by decide)]
    exact x107_0 ⟨fun q => absurd q hg, fun _ => zPC_r zcf_rfl eA⟩
theorem b224 {r k : Int} (hMR : zMR) (hD : zDk H) : zclI w (d + 6) 224 [zR 81, zI r, zI k] H (zPM H (zAr H (decide (-1 ≤ k)) r (zfval k))) := by
  unfold zAr
  refine x224_0 ⟨fun hg => ?_, fun hg => ?_⟩
  · rw [decide_eq_false (by omega), if_neg (by decide)]
    exact c225 hMR hD (fun q => absurd rfl q) (fun _ => ⟨fun q => absurd rfl q, fun _ => zPM_n zmf_rfl rfl⟩) (fun q => absurd rfl q)
  · rw [if_pos (decide_eq_true hg)]
    refine c225 hMR hD (fun _ hr H1 hF hs hm => ?_) (fun q => by omega) (fun _ hr => ?_)
    · rw [if_pos hr]
      have ok := zRW_ok hMR hD hr
      obtain ⟨w1, w2, w3, w4⟩ := hm
      unfold zfval
      rw [w1]
      refine ⟨fun _ => ⟨fun q => ⟨fun q2 => ?_, fun q2 => ⟨?_, ?_⟩⟩, fun q => ?_⟩, fun q => absurd q (by decide)⟩
      · exact zPM_r hF (by rw [if_neg q, if_neg (by omega)])
      · have := ok.2.1; omega
      · rw [zArr_i w4 (by omega) q2]
        exact zPM_0 hF hs (by rw [if_neg q, if_pos q2])
      · exact zPM_0 hF hs (by rw [if_pos q])
    · rw [if_neg hr]
      exact ⟨fun q => absurd rfl q, fun _ => zPM_n zmf_rfl rfl⟩
-- ends
theorem b111 {r : Int} (hMR : zMR) (hD : zDk H) (hW : zWlk H) : zclI w (d + 6) 111 [zR 32, zI r] H (zPC H (zAr H true r zfend)) := by
  have h6 := hD.2.2.2.2.2.1
  unfold zAr
  rw [if_pos rfl]
  refine x111_0 ?_
  simp only [c106 h6.2, zit0, Classical.not_not]
  refine ⟨fun hr => zwalk hMR hD hW hr (fun o H1 ho _ hF hw => ?_), fun hr => ?_⟩
  · rw [if_pos hr, hw.2.1]
    exact zPC_d hF rfl
  · rw [if_neg hr]; exact zPC_r zcf_rfl rfl
theorem b229 {r : Int} (hMR : zMR) (hD : zDk H) : zclI w (d + 6) 229 [zR 81, zI r] H (zPM H (zAr H true r zfend)) := by
  unfold zAr
  rw [if_pos rfl]
  refine x229_0 (c225 hMR hD (fun _ hr H1 hF hs hm => ?_) (fun q => absurd q (by decide)) (fun _ hr => ?_))
  · rw [if_pos hr, hm.2.1]
    exact ⟨fun q => absurd q (by decide), fun _ => zPM_0 hF hs rfl⟩
  · rw [if_neg hr]
    exact ⟨fun _ => zPM_n zmf_rfl rfl, fun q => absurd rfl q⟩
-- round
theorem c113 {o : Int} {r : List Int × Int × Int} {K : Int → zHt → Prop} (ho : zisW o) (hok : zRowOk r) (he : r.2.1 = 1) (hw : zWalkIs H o r) : zclI w (d + 2) 113 [zR o] H K = K (zlor r) H := by
  obtain ⟨w1, w2, w3, w4⟩ := hw
  obtain ⟨k1, k2, k3, k4, k5, k6⟩ := hok
  have hb : 0 ≤ r.2.2 ∧ r.2.2 < r.1.length := by
    rcases k5 with z | z
    · exact z.2
    · omega
  have L : ∀ (c k : Nat) (m : Int) (K : Int → zHt → Prop), k + c = r.1.length → K (zmnl r.1 c k m) H → zgo w (d + 2) 113 14 [zR o, zI m, zI k] [] H (zQI K) := by
    intro c
    induction c with
    | zero => exact fun k m K hk h => x113_14 ho ⟨fun _ => h, fun q => by omega⟩
    | succ c ih =>
      intro k m K hk h
      refine x113_14 ho ⟨fun q => by omega, fun _ => ⟨by omega, ?_⟩⟩
      rw [w4 k (by omega), zi1 (by omega)]
      exact ih (k + 1) _ K (by omega) h
  refine zclI_eq fun K h => x113_0 ho ?_
  have e1 : w32 ((r.1.length : Int) - 1) = ((r.1.length - 1 : Nat) : Int) := by rw [w32_id (by omega)]; omega
  have e2 : (if (0 : Int) < ((r.1.length - 1 : Nat) : Int) then ((r.1.length - 1 : Nat) : Int) else 0) = ((r.1.length - 1 : Nat) : Int) := by
    split <;> omega
  refine x114_0 ho ?_
  rw [w1, e1, e2, w4 (r.1.length - 1) (by omega), w3]
  refine ⟨by omega, ?_⟩
  have e3 : (if 0 < r.2.2 then r.2.2 else 0) = ((r.2.2.toNat : Nat) : Int) := by
    split <;> omega
  rw [e3]
  refine L (r.1.length - r.2.2.toNat) r.2.2.toNat _ K (by omega) ?_
  rw [zmnl_eq (j := r.2.2.toNat) (by omega) (by omega)]
  exact h
theorem b112 {r t : Int} (hMR : zMR) (hD : zDk H) (hW : zWlk H) : zclI w (d + 6) 112 [zR 32, zI r, zI t] H (zPC H (zAr H (decide (0 ≤ t ∧ t ≤ 2)) r (zfrnd t))) := by
  have h6 := hD.2.2.2.2.2.1
  unfold zAr
  refine x112_0 ?_
  simp only [c44, c106 h6.2, zit0, Classical.not_not]
  refine ⟨fun hg => ⟨fun hr => zwalk hMR hD hW hr (fun o H1 ho _ hF hw => ?_), fun hr => ?_⟩, fun hg => ?_⟩
  · rw [if_pos (decide_eq_true hg), if_pos hr]
    have ok := zRW_ok hMR hD hr
    have hwc := hw
    obtain ⟨w1, w2, w3, w4⟩ := hw
    unfold zfrnd
    rw [w1, w2, w3]
    have hb : (zRW H r).2.1 = 1 → 0 ≤ (zRW H r).2.2 ∧ (zRW H r).2.2 < (zRW H r).1.length := fun z => by
      rcases ok.2.2.2.2.1 with y | y
      · exact y.2
      · omega
    have := ok.2.1
    refine ⟨fun q => ⟨fun q2 => ?_, fun q2 => ?_, fun q2 q3 => ?_⟩, fun q => ?_⟩
    · exact zPC_d hF (by rw [if_pos q, if_pos q2])
    · have := hb q
      rw [w32_id (by omega)]
      exact zPC_d hF (by rw [if_pos q, if_neg (by omega), if_pos q2])
    · rw [c113 (d := d + 3) ho ok q hwc]
      exact zPC_d hF (by rw [if_pos q, if_neg q2, if_neg q3])
    · exact zPC_r hF (by rw [if_neg q])
  · rw [if_pos (decide_eq_true hg), if_neg hr]; exact zPC_r zcf_rfl rfl
  · rw [decide_eq_false hg, if_neg (by decide)]; exact zPC_r zcf_rfl rfl
theorem c231 {r : List Int × Int × Int} {K : Int → zHt → Prop} (hok : zRowOk r) (he : r.2.1 = 1) (hm : zMrow H r) : zclI w d 231 [zR 81] H K = K (zlor r) H := by
  obtain ⟨w1, w2, w3, w4⟩ := hm
  obtain ⟨k1, k2, k3, k4, k5, k6⟩ := hok
  have hb : 0 ≤ r.2.2 ∧ r.2.2 < r.1.length := by
    rcases k5 with z | z
    · exact z.2
    · omega
  have L : ∀ (c k : Nat) (m : Int) (K : Int → zHt → Prop), k + c = r.1.length → K (zmnl r.1 c k m) H → zgo w d 231 15 [zR 81, zI m, zI k] [] H (zQI K) := by
    intro c
    induction c with
    | zero => exact fun k m K hk h => x231_15 ⟨fun _ => h, fun q => by omega⟩
    | succ c ih =>
      intro k m K hk h
      have h : K (zmnl r.1 c (k + 1) (if r.1.getD k 0 < m then r.1.getD k 0 else m)) H := h
      refine x231_15 ⟨fun q => by omega, fun _ => ⟨by omega, ?_⟩⟩
      rw [w4 k (by omega), zi1 (by omega)]
      refine ⟨fun q => ?_, fun q => ?_⟩
      · rw [if_neg (by omega)] at h
        exact ih (k + 1) _ K (by omega) h
      · rw [if_pos q] at h
        exact ih (k + 1) _ K (by omega) h
  refine zclI_eq fun K h => x231_0 ?_
  rw [w3, zArr_i w4 hb.1 hb.2]
  refine ⟨by omega, ?_⟩
  have := L (r.1.length - r.2.2.toNat) r.2.2.toNat (r.1.getD r.2.2.toNat 0) K (by omega) h
  rw [Int.toNat_of_nonneg hb.1] at this
  exact this
theorem b230 {r t : Int} (hMR : zMR) (hD : zDk H) : zclI w (d + 6) 230 [zR 81, zI r, zI t] H (zPM H (zAr H (decide (0 ≤ t ∧ t ≤ 2)) r (zfrnd t))) := by
  unfold zAr
  refine x230_0 ?_
  rw [c173]
  refine c225 hMR hD (fun g hr H1 hF hs hm => ?_) (fun g => ?_) (fun g hr => ?_)
  · have hg : 0 ≤ t ∧ t ≤ 2 := by
      rcases Classical.em (0 ≤ t ∧ t ≤ 2) with z | z
      · exact z
      · rw [if_neg z] at g; exact absurd rfl g
    rw [if_pos (decide_eq_true hg), if_pos hr]
    have ok := zRW_ok hMR hD hr
    have hmc := hm
    obtain ⟨w1, w2, w3, w4⟩ := hm
    unfold zfrnd
    rw [w1, w2, w3]
    have hb : (zRW H r).2.1 = 1 → 0 ≤ (zRW H r).2.2 ∧ (zRW H r).2.2 < (zRW H r).1.length := fun z => by
      rcases ok.2.2.2.2.1 with y | y
      · exact y.2
      · omega
    have := ok.2.1
    refine ⟨fun _ => ⟨fun q => ⟨fun q2 => ⟨fun q3 => ?_, fun q3 => ?_⟩, fun q2 => ?_⟩, fun q => ?_⟩, fun q => absurd q (by decide)⟩
    · rw [c231 ok q hmc]
      exact zPM_0 hF hs (by rw [if_pos q, if_neg q2, if_neg q3])
    · have := hb q
      rw [w32_id (by omega)]
      exact zPM_0 hF hs (by rw [if_pos q, if_neg q2, if_pos q3])
    · exact zPM_0 hF hs (by rw [if_pos q, if_pos q2])
    · exact zPM_r hF (by rw [if_neg q])
  · have hg : ¬ (0 ≤ t ∧ t ≤ 2) := fun z => by rw [if_pos z] at g; exact absurd g (by decide)
    rw [decide_eq_false hg, if_neg (by decide)]
    exact ⟨fun q => absurd rfl q, fun _ => zPM_n zmf_rfl rfl⟩
  · have hg : 0 ≤ t ∧ t ≤ 2 := by
      rcases Classical.em (0 ≤ t ∧ t ≤ 2) with z | z
      · exact z
      · rw [if_neg z] at g; exact absurd rfl g
    rw [if_pos (decide_eq_true hg), if_neg hr]
    exact ⟨fun q => absurd rfl q, fun _ => zPM_n zmf_rfl rfl⟩
-- peak
theorem c116 {o : Int} {r : List Int × Int × Int} {K : Int → zHt → Prop} (ho : zisW o) (hok : zRowOk r) (hw : zWalkIs H o r) : zclI w d 116 [zR o] H K = K (zpk r.1 (r.1.length - 1) 1 0 : Int) H := by
  obtain ⟨w1, w2, w3, w4⟩ := hw
  obtain ⟨k1, k2, -⟩ := hok
  have L : ∀ (c k p : Nat) (K : Int → zHt → Prop), k + c = r.1.length → p < k → K (zpk r.1 c k p : Int) H → zgo w d 116 4 [zR o, zI p, zI k] [] H (zQI K) := by
    intro c
    induction c with
    | zero => exact fun k p K hk hp h => x116_4 ho ⟨fun _ => h, fun q => by omega⟩
    | succ c ih =>
      intro k p K hk hp h
      have h : K (zpk r.1 c (k + 1) (if r.1.getD p 0 < r.1.getD k 0 then k else p) : Int) H := h
      refine x116_4 ho ⟨fun q => by omega, fun _ => ⟨by omega, by omega, ?_⟩⟩
      rw [w4 k (by omega), w4 p (by omega), zi1 (by omega)]
      refine ⟨fun q => ?_, fun q => ?_⟩
      · rw [if_neg (by omega)] at h
        exact ih (k + 1) p K (by omega) (by omega) h
      · rw [if_pos q] at h
        exact ih (k + 1) k K (by omega) (by omega) h
  exact zclI_eq fun K h => x116_0 ho (L (r.1.length - 1) 1 0 K (by omega) (by omega) h)
theorem c233 {r : List Int × Int × Int} {K : Int → zHt → Prop} (hok : zRowOk r) (hm : zMrow H r) : zclI w d 233 [zR 81] H K = K (zpk r.1 (r.1.length - 1) 1 0 : Int) H := by
  obtain ⟨w1, w2, w3, w4⟩ := hm
  obtain ⟨k1, k2, -⟩ := hok
  have L : ∀ (c k p : Nat) (K : Int → zHt → Prop), k + c = r.1.length → p < k → K (zpk r.1 c k p : Int) H → zgo w d 233 4 [zR 81, zI p, zI k] [] H (zQI K) := by
    intro c
    induction c with
    | zero => exact fun k p K hk hp h => x233_4 ⟨fun _ => h, fun q => by omega⟩
    | succ c ih =>
      intro k p K hk hp h
      have h : K (zpk r.1 c (k + 1) (if r.1.getD p 0 < r.1.getD k 0 then k else p) : Int) H := h
      refine x233_4 ⟨fun q => by omega, fun _ => ⟨by omega, by omega, ?_⟩⟩
      rw [w4 k (by omega), w4 p (by omega), zi1 (by omega)]
      refine ⟨fun q => ?_, fun q => ?_⟩
      · rw [if_neg (by omega)] at h
        exact ih (k + 1) p K (by omega) (by omega) h
      · rw [if_pos q] at h
        exact ih (k + 1) k K (by omega) (by omega) h
  exact zclI_eq fun K h => x233_0 (L (r.1.length - 1) 1 0 K (by omega) (by omega) h)
theorem b115 {r t : Int} (hMR : zMR) (hD : zDk H) (hW : zWlk H) : zclI w (d + 6) 115 [zR 32, zI r, zI t] H (zPC H (zAr H (decide (0 ≤ t ∧ t ≤ 1)) r (zfpk t))) := by
  have h6 := hD.2.2.2.2.2.1
  unfold zAr
  refine x115_0 ?_
  simp only [c44, c106 h6.2, zit0, Classical.not_not]
  refine ⟨fun hg => ⟨fun hr => zwalk hMR hD hW hr (fun o H1 ho _ hF hw => ?_), fun hr => ?_⟩, fun hg => ?_⟩
  · rw [if_pos (decide_eq_true hg), if_pos hr]
    have ok := zRW_ok hMR hD hr
    have hp := zpk_lt (vs := (zRW H r).1) (c := (zRW H r).1.length - 1) (k := 1) (p := 0) (by omega)
    have k1 := ok.1
    have k2 := ok.2.1
    unfold zfpk
    rw [c116 ho ok hw]
    refine ⟨fun q => zPC_d hF (by rw [if_neg q]), fun q => ⟨by omega, ?_⟩⟩
    rw [hw.2.2.2 _ (by omega)]
    exact zPC_d hF (by rw [if_pos q])
  · rw [if_pos (decide_eq_true hg), if_neg hr]; exact zPC_r zcf_rfl rfl
  · rw [decide_eq_false hg, if_neg (by decide)]; exact zPC_r zcf_rfl rfl
/-- the model's call on a row, with a choice -/
theorem c225t {b c r t : Int} {f : List Int × Int × Int → Int × Int} {P : Int → zHt → Prop} (hMR : zMR) (hD : zDk H) (h0 : (b ≤ t ∧ t ≤ c) → (0 ≤ r ∧ r < H 40 1) → ∀ H1, zmf H H1 → H1 81 0 = 0 → zMrow H1 (zRW H r) → zAr H (decide (b ≤ t ∧ t ≤ c)) r f = f (zRW H r) → P 1 H1) (h1 : ∀ s, zPM H (zAr H (decide (b ≤ t ∧ t ≤ c)) r f) (-1) (zst H s) → P 0 (zst H s)) : zclI w (d + 5) 225 [zR 81, zI (if b ≤ t ∧ t ≤ c then 1 else 0), zI r] H P := by
  refine c225 hMR hD (fun g hr H1 hF hs hm => ?_) (fun g => ?_) (fun g hr => ?_)
  · have hg : b ≤ t ∧ t ≤ c := by
      rcases Classical.em (b ≤ t ∧ t ≤ c) with z | z
      · exact z
      · rw [if_neg z] at g; exact absurd rfl g
    exact h0 hg hr H1 hF hs hm (by unfold zAr; rw [if_pos (decide_eq_true hg), if_pos hr])
  · have hg : ¬ (b ≤ t ∧ t ≤ c) := fun z => by rw [if_pos z] at g; exact absurd g (by decide)
    exact h1 1 (zPM_n zmf_rfl (by unfold zAr; rw [decide_eq_false hg, if_neg (by decide)]))
  · have hg : b ≤ t ∧ t ≤ c := by
      rcases Classical.em (b ≤ t ∧ t ≤ c) with z | z
      · exact z
      · rw [if_neg z] at g; exact absurd rfl g
    exact h1 2 (zPM_n zmf_rfl (by unfold zAr; rw [if_pos (decide_eq_true hg), if_neg hr]))
theorem b232 {r t : Int} (hMR : zMR) (hD : zDk H) : zclI w (d + 6) 232 [zR 81, zI r, zI t] H (zPM H (zAr H (decide (0 ≤ t ∧ t ≤ 1)) r (zfpk t))) := by
  refine x232_0 ?_
  rw [c173]
  refine c225t (f := zfpk t) hMR hD (fun hg hr H1 hF hs hm e => ?_) (fun s h => ⟨fun q => absurd rfl q, fun _ => h⟩)
  rw [e]
  have ok := zRW_ok hMR hD hr
  have hp := zpk_lt (vs := (zRW H r).1) (c := (zRW H r).1.length - 1) (k := 1) (p := 0) (by omega)
  have k1 := ok.1
  have k2 := ok.2.1
  unfold zfpk
  refine ⟨fun _ => ⟨fun q => ?_, fun q => ?_⟩, fun q => absurd q (by decide)⟩
  · rw [c233 ok hm]; exact zPM_0 hF hs (by rw [if_neg q])
  · rw [c233 ok hm]
    refine ⟨by omega, ?_⟩
    rw [hm.2.2.2 _ (by omega)]
    exact zPM_0 hF hs (by rw [if_pos q])
-- total
theorem ztx_b {t v : Int} (h : 0 ≤ v ∧ v ≤ 999999999) : 0 ≤ ztx t v ∧ ztx t v ≤ 999999999 := by
  unfold ztx
  split
  · exact h
  · split
    · obtain ⟨n, rfl⟩ : ∃ n : Nat, v = n := ⟨v.toNat, by omega⟩
      rw [ztm2]; omega
    · rcases zisp_01 (n := v.toNat) with z | z <;> rw [z] <;> decide
theorem b120l {H0 : zHt} {o t : Int} {r : List Int × Int × Int} {A : Int × Int} (hMR : zMR) (ho : zisW o) (hok : zRowOk r) (ht : 0 ≤ t ∧ t ≤ 2) : ∀ (suf pre : List Int) (a b c : Int) (H : zHt), zcf H0 H → zWalkIs H o r → r.1 = pre ++ suf → (0 ≤ a ∧ a ≤ 999999999 * pre.length) → (0 ≤ b ∧ b ≤ pre.length) → (0 ≤ c ∧ c ≤ pre.length) → (t = 0 → A = (0, a + zto t suf)) → (t = 1 → A = (0, b + zto t suf)) → (t = 2 → A = (0, c + zto t suf)) → zgo w (d + 5) 120 48 [zR 32, zJ, zI t, zR o, zL a, zJ, zI b, zI c, zI pre.length, zJ] [] H (zQL (zPC H0 A)) := by
  have hob := zisW_b ho
  intro suf
  induction suf with
  | nil =>
    intro pre a b c H hF hw hl ha hb hc h0 h1 h2
    have hlen : r.1.length = pre.length := by rw [hl, List.append_nil]
    have w1 := hw.1
    refine x120_48 ho ⟨fun _ => ⟨fun q => ⟨fun q2 => ?_, fun q2 => ?_⟩, fun q => ?_⟩, fun q => by omega⟩
    · exact zPC_d hF (by rw [h2 (by omega)]; simp [zto])
    · exact zPC_d hF (by rw [h1 q2]; simp [zto])
    · exact zPC_dL hF (by rw [h0 q]; simp [zto])
  | cons v suf ih =>
    intro pre a b c H hF hw hl ha hb hc h0 h1 h2
    have hlen : r.1.length = pre.length + (suf.length + 1) := by rw [hl, List.length_append]; rfl
    have w1 := hw.1
    have k2 := hok.2.1
    have hx : r.1.getD pre.length 0 = v := by
      rw [hl, List.getD_eq_getElem?_getD, List.getElem?_append_right (Nat.le_refl _), Nat.sub_self]; rfl
    have hv := hok.2.2.1 pre.length (by omega)
    rw [hx] at hv
    have hrd : H (o + 1) (pre.length : Int) = v := by rw [hw.2.2.2 pre.length (by omega), hx]
    have hp : w32 ((pre.length : Int) + 1) = ((pre ++ [v]).length : Int) := by rw [w32_id (by omega), List.length_append]; simp
    have hpl : ((pre ++ [v]).length : Int) = (pre.length : Int) + 1 := by rw [List.length_append]; simp
    have hm : 0 ≤ Int.tmod v 2 ∧ Int.tmod v 2 ≤ 1 := by
      obtain ⟨n, rfl⟩ : ∃ n : Nat, v = n := ⟨v.toNat, by omega⟩
      rw [ztm2]; omega
    have ez : ∀ t, zto t (v :: suf) = ztx t v + zto t suf := fun _ => rfl
    refine x120_48 ho ⟨fun q => by omega, fun _ => ⟨by omega, ?_⟩⟩
    rw [hrd, hp, w64_id (show _ ≤ a + v ∧ _ by omega), w32_id (show _ ≤ b + Int.tmod v 2 ∧ _ by omega)]
    have nx : ∀ (c' : Int) (H1 : zHt), zcf H0 H1 → zWalkIs H1 o r → (0 ≤ c' ∧ c' ≤ (pre.length : Int) + 1) → (t = 2 → c' = c + ztx t v) → zgo w (d + 5) 120 48 [zR 32, zJ, zI t, zR o, zL (a + v), zJ, zI (b + Int.tmod v 2), zI c', zI (pre ++ [v]).length, zJ] [] H1 (zQL (zPC H0 A)) := fun c' H1 f1 f2 f3 f4 => by
      refine ih (pre ++ [v]) (a + v) (b + Int.tmod v 2) c' H1 f1 f2 (by rw [hl]; simp) (by rw [hpl]; omega) (by rw [hpl]; omega) (by rw [hpl]; exact f3) (fun z => ?_) (fun z => ?_) (fun z => ?_)
      · rw [h0 z, ez, show ztx t v = v by unfold ztx; rw [if_pos z]]
        exact congrArg (fun z : Int => ((0 : Int), z)) (by omega)
      · rw [h1 z, ez, show ztx t v = Int.tmod v 2 by unfold ztx; rw [if_neg (by omega), if_pos z]]
        exact congrArg (fun z : Int => ((0 : Int), z)) (by omega)
      · rw [h2 z, ez, f4 z]
        exact congrArg (fun z : Int => ((0 : Int), z)) (by omega)
    refine ⟨fun q => ?_, fun q => ?_⟩
    · rw [show w32 (c + 0) = c by rw [w32_id (by omega)]; omega]
      exact nx c H hF hw (by omega) (fun z => absurd z q)
    · obtain ⟨H1, g, e⟩ := c103a (w := w) (d := d + 1) (H := H) (n := v.toNat) hMR (by omega)
      rw [Int.toNat_of_nonneg hv.1] at e
      have hw1 : zWalkIs H1 o r := ⟨(g o 1 (by omega) (by omega) (by omega)).trans hw.1, (g o 2 (by omega) (by omega) (by omega)).trans hw.2.1, (g o 3 (by omega) (by omega) (by omega)).trans hw.2.2.1, zArr_eq (fun k _ => g (o + 1) k (by omega) (by omega) (by omega)) hw.2.2.2⟩
      have ex : ztx t v = zisp v.toNat := by unfold ztx; rw [if_neg (by omega), if_neg (by omega)]
      rw [e]
      refine ⟨fun q2 => ?_, fun q2 => ?_⟩
      · rw [show w32 (c + 0) = c by rw [w32_id (by omega)]; omega]
        exact nx c H1 (zcf_fc hF g) hw1 (by omega) (fun z => by rw [ex, q2]; omega)
      · rw [w32_id (show _ ≤ c + 1 ∧ _ by omega)]
        exact nx (c + 1) H1 (zcf_fc hF g) hw1 (by omega) (fun z => by
          rw [ex]
          rcases zisp_01 (n := v.toNat) with y | y
          · exact absurd y q2
          · rw [y])
theorem b120 {r t : Int} (hMR : zMR) (hD : zDk H) (hW : zWlk H) : zclL w (d + 6) 120 [zR 32, zI r, zI t] H (zPC H (zAr H (decide (0 ≤ t ∧ t ≤ 2)) r (zftot t))) := by
  have h6 := hD.2.2.2.2.2.1
  unfold zAr
  refine x120_0 ?_
  simp only [c44, c106 h6.2, zit0, Classical.not_not]
  refine ⟨fun hg => ⟨fun hr => zwalk hMR hD hW hr (fun o H1 ho _ hF hw => ?_), fun hr => ?_⟩, fun hg => ?_⟩
  · rw [if_pos (decide_eq_true hg), if_pos hr]
    have ok := zRW_ok hMR hD hr
    have e : zftot t (zRW H r) = (0, (0 : Int) + zto t (zRW H r).1) := by unfold zftot; rw [Int.zero_add]
    exact b120l (d := d + 1) hMR ho ok hg (zRW H r).1 [] 0 0 0 H1 hF hw rfl (by simp) (by simp) (by simp) (fun _ => e) (fun _ => e) (fun _ => e)
  · rw [if_pos (decide_eq_true hg), if_neg hr]; exact zPC_r zcf_rfl rfl
  · rw [decide_eq_false hg, if_neg (by decide)]; exact zPC_r zcf_rfl rfl
theorem b235l {H0 : zHt} {t : Int} {r : List Int × Int × Int} {A : Int × Int} (hok : zRowOk r) (ht : 0 ≤ t ∧ t ≤ 2) : ∀ (suf pre : List Int) (a : Int) (H : zHt), zmf H0 H → H 81 0 = 0 → zMrow H r → r.1 = pre ++ suf → (0 ≤ a ∧ a ≤ 999999999 * pre.length) → A = (0, a + zto t suf) → zgo w (d + 3) 235 26 [zR 81, zJ, zI t, zL a, zJ, zI pre.length] [] H (zQL (zPM H0 A)) := by
  intro suf
  induction suf with
  | nil =>
    intro pre a H hF hs hw hl ha h0
    have hlen : r.1.length = pre.length := by rw [hl, List.append_nil]
    have w1 := hw.1
    refine x235_26 ⟨fun _ => zPM_0 hF hs (by rw [h0]; simp [zto]), fun q => by omega⟩
  | cons v suf ih =>
    intro pre a H hF hs hw hl ha h0
    have hlen : r.1.length = pre.length + (suf.length + 1) := by rw [hl, List.length_append]; rfl
    have w1 := hw.1
    have k2 := hok.2.1
    have hx : r.1.getD pre.length 0 = v := by
      rw [hl, List.getD_eq_getElem?_getD, List.getElem?_append_right (Nat.le_refl _), Nat.sub_self]; rfl
    have hv := hok.2.2.1 pre.length (by omega)
    rw [hx] at hv
    have hrd : H 94 (pre.length : Int) = v := by rw [hw.2.2.2 pre.length (by omega), hx]
    have hp : w32 ((pre.length : Int) + 1) = ((pre ++ [v]).length : Int) := by rw [w32_id (by omega), List.length_append]; simp
    have hpl : ((pre ++ [v]).length : Int) = (pre.length : Int) + 1 := by rw [List.length_append]; simp
    have hb := ztx_b (t := t) hv
    have ez : zto t (v :: suf) = ztx t v + zto t suf := rfl
    rw [ez] at h0
    have nx : ∀ (y : Int) (H1 : zHt), zmf H0 H1 → H1 81 0 = 0 → zMrow H1 r → y = ztx t v → zgo w (d + 3) 235 26 [zR 81, zJ, zI t, zL (w64 (a + y)), zJ, zI (pre ++ [v]).length] [] H1 (zQL (zPM H0 A)) := fun y H1 f1 f2 f3 f4 => by
      subst f4
      rw [w64_id (by omega)]
      exact ih (pre ++ [v]) _ H1 f1 f2 f3 (by rw [hl]; simp) (by rw [hpl]; omega) (by rw [h0]; exact congrArg (fun z : Int => ((0 : Int), z)) (by omega))
    refine x235_26 ⟨fun q => by omega, fun _ => ?_⟩
    rw [hrd, hp]
    refine ⟨fun q => ⟨fun q2 => ⟨by omega, ?_⟩, fun q2 => ⟨by omega, ?_⟩⟩, fun q => ⟨by omega, ?_⟩⟩
    · obtain ⟨H1, g, e⟩ := c220 (w := w) (d := d + 1) (H := H) (n := v.toNat) (by omega)
      rw [Int.toNat_of_nonneg hv.1] at e
      have hw1 : zMrow H1 r := ⟨(g 81 21 (by decide) (by decide) (by decide)).trans hw.1, (g 81 22 (by decide) (by decide) (by decide)).trans hw.2.1, (g 81 23 (by decide) (by decide) (by decide)).trans hw.2.2.1, zArr_eq (fun k _ => g 94 k (by decide) (by decide) (by omega)) hw.2.2.2⟩
      have hs1 : H1 81 0 = 0 := (g 81 0 (by decide) (by decide) (by decide)).trans hs
      have ex : ztx t v = zisp v.toNat := by unfold ztx; rw [if_neg q, if_neg q2]
      rw [e]
      refine ⟨fun q3 => nx 0 H1 (zmf_fm hF g) hs1 hw1 (by rw [ex, q3]), fun q3 => nx 1 H1 (zmf_fm hF g) hs1 hw1 ?_⟩
      rw [ex]
      rcases zisp_01 (n := v.toNat) with y | y
      · exact absurd y q3
      · exact y.symm
    · exact nx _ H hF hs hw (by unfold ztx; rw [if_neg q, if_pos q2])
    · exact nx _ H hF hs hw (by unfold ztx; rw [if_pos q])
theorem b235 {r t : Int} (hMR : zMR) (hD : zDk H) : zclL w (d + 6) 235 [zR 81, zI r, zI t] H (zPM H (zAr H (decide (0 ≤ t ∧ t ≤ 2)) r (zftot t))) := by
  refine x235_0 ?_
  rw [c173]
  refine c225t (f := zftot t) hMR hD (fun hg hr H1 hF hs hm e => ?_) (fun s h => ⟨fun q => absurd rfl q, fun _ => h⟩)
  rw [e]
  have ok := zRW_ok hMR hD hr
  refine ⟨fun _ => ?_, fun q => absurd q (by decide)⟩
  exact b235l (d := d + 3) ok hg (zRW H r).1 [] 0 H1 hF hs hm rfl (by simp) (by unfold zftot; rw [Int.zero_add])
-- growth
theorem b121 {r k : Int} (hMR : zMR) (hD : zDk H) (hW : zWlk H) (hk : r32 k) : zclI w (d + 6) 121 [zR 32, zI r, zI k] H (zPC H (zAr H (decide (0 ≤ k ∧ k ≤ 2147483647)) r (zfgr k))) := by
  have h6 := hD.2.2.2.2.2.1
  unfold zAr
  refine x121_0 ?_
  simp only [c106 h6.2, zit0, Classical.not_not]
  refine ⟨fun hg => ⟨fun hr => zwalk hMR hD hW hr (fun o H1 ho _ hF hw => ?_), fun hr => ?_⟩, fun hg => ?_⟩
  · rw [if_pos (decide_eq_true ⟨hg, hk.2⟩), if_pos hr]
    have ok := zRW_ok hMR hD hr
    have k1 := ok.1
    have k2 := ok.2.1
    obtain ⟨w1, w2, w3, w4⟩ := hw
    unfold zfgr
    rw [w1, w32_id (show _ ≤ ((zRW H r).1.length : Int) - 1 ∧ _ by omega)]
    refine ⟨fun q => ?_, fun q => zPC_r hF (by rw [if_neg (by omega)])⟩
    have hv := ok.2.2.2.1 k.toNat (by omega)
    rw [w32_id (show _ ≤ k + 1 ∧ _ by omega), zArr_i w4 hg (by omega), zArr_i w4 (by omega) (by omega)]
    have em : (if 1 < (zRW H r).1.getD k.toNat 0 then (zRW H r).1.getD k.toNat 0 else 1) = (zRW H r).1.getD k.toNat 0 := by split <;> omega
    rw [em]
    refine ⟨by omega, by omega, by omega, fun v hv2 => ?_⟩
    subst hv2
    exact zPC_d hF (by rw [if_pos (by omega)])
  · rw [if_pos (decide_eq_true ⟨hg, hk.2⟩), if_neg hr]; exact zPC_r zcf_rfl rfl
  · rw [decide_eq_false (by omega), if_neg (by decide)]; exact zPC_r zcf_rfl rfl
theorem b236 {r k : Int} (hMR : zMR) (hD : zDk H) (hk : r32 k) : zclI w (d + 6) 236 [zR 81, zI r, zI k] H (zPM H (zAr H (decide (0 ≤ k ∧ k ≤ 2147483647)) r (zfgr k))) := by
  have L : zgo w (d + 6) 236 10 [zR 81, zI r, zI k] [zI (if 0 ≤ k ∧ k ≤ 2147483647 then 1 else 0), zR 81] H (zQI (zPM H (zAr H (decide (0 ≤ k ∧ k ≤ 2147483647)) r (zfgr k)))) := by
    refine x236_10 ?_
    refine c225t (f := zfgr k) hMR hD (fun hg hr H1 hF hs hm e => ?_) (fun s h => ⟨fun q => absurd rfl q, fun _ => h⟩)
    rw [e]
    have ok := zRW_ok hMR hD hr
    have k1 := ok.1
    have k2 := ok.2.1
    obtain ⟨w1, w2, w3, w4⟩ := hm
    unfold zfgr
    rw [w1, w64_id (show _ ≤ k + 1 ∧ _ by omega)]
    refine ⟨fun _ => ⟨fun q => zPM_r hF (by rw [if_neg (by omega)]), fun q => ?_⟩, fun q => absurd q (by decide)⟩
    have hv := ok.2.2.2.1 k.toNat (by omega)
    rw [w32_id (show _ ≤ k + 1 ∧ _ by omega), zArr_i w4 hg.1 (by omega), zArr_i w4 (by omega) (by omega)]
    exact ⟨by omega, by omega, by omega, zPM_0 hF hs (by rw [if_pos q])⟩
  refine x236_0 ⟨fun q => ?_, fun q => ?_⟩
  · rw [if_neg (by omega)] at L; exact L
  · rw [if_pos ⟨q, hk.2⟩] at L; exact L
end Z48
theorem l1190 {w : zWt} (hw : w.1 ≤ 3072) (hMR : zMR) : zLaw w (zKept zAllR) 1190 := fun H i hi hR K nx => x0_1190 (d := 1999) (by
  refine ⟨zidx hw hi (by decide) (by decide), zidx hw hi (by decide) (by decide), ?_⟩
  have r1 : r32 (zH0 w.2 0 (w32 ((i : Int) + 1))) := zv_r
  generalize zH0 w.2 0 (w32 ((i : Int) + 1)) = v1 at r1 ⊢
  have r2 : r32 (zH0 w.2 0 (w32 ((i : Int) + 2))) := zv_r
  generalize zH0 w.2 0 (w32 ((i : Int) + 2)) = v2 at r2 ⊢
  exact zcaseI (A := fun H => zAr H (decide (-1 ≤ v2)) v1 (zfval v2)) zAr_con hR (fun hD hW => b107 (d := 1993) hMR hD hW) (fun H1 hD => b224 (d := 1993) hMR hD) (fun x y H' hk e => nx H' hk))
theorem l1223 {w : zWt} (hw : w.1 ≤ 3072) (hMR : zMR) : zLaw w (zKept zAllR) 1223 := fun H i hi hR K nx => x0_1223 (d := 1999) (by
  refine ⟨zidx hw hi (by decide) (by decide), ?_⟩
  have r1 : r32 (zH0 w.2 0 (w32 ((i : Int) + 1))) := zv_r
  generalize zH0 w.2 0 (w32 ((i : Int) + 1)) = v1 at r1 ⊢
  exact zcaseI (A := fun H => zAr H true v1 zfend) zAr_con hR (fun hD hW => b111 (d := 1993) hMR hD hW) (fun H1 hD => b229 (d := 1993) hMR hD) (fun x y H' hk e => nx H' hk))
theorem l1246 {w : zWt} (hw : w.1 ≤ 3072) (hMR : zMR) : zLaw w (zKept zAllR) 1246 := fun H i hi hR K nx => x0_1246 (d := 1999) (by
  refine ⟨zidx hw hi (by decide) (by decide), zidx hw hi (by decide) (by decide), ?_⟩
  have r1 : r32 (zH0 w.2 0 (w32 ((i : Int) + 1))) := zv_r
  generalize zH0 w.2 0 (w32 ((i : Int) + 1)) = v1 at r1 ⊢
  have r2 : r32 (zH0 w.2 0 (w32 ((i : Int) + 2))) := zv_r
  generalize zH0 w.2 0 (w32 ((i : Int) + 2)) = v2 at r2 ⊢
  exact zcaseI (A := fun H => zAr H (decide (0 ≤ v2 ∧ v2 ≤ 2)) v1 (zfrnd v2)) zAr_con hR (fun hD hW => b112 (d := 1993) hMR hD hW) (fun H1 hD => b230 (d := 1993) hMR hD) (fun x y H' hk e => nx H' hk))
theorem l1279 {w : zWt} (hw : w.1 ≤ 3072) (hMR : zMR) : zLaw w (zKept zAllR) 1279 := fun H i hi hR K nx => x0_1279 (d := 1999) (by
  refine ⟨zidx hw hi (by decide) (by decide), zidx hw hi (by decide) (by decide), ?_⟩
  have r1 : r32 (zH0 w.2 0 (w32 ((i : Int) + 1))) := zv_r
  generalize zH0 w.2 0 (w32 ((i : Int) + 1)) = v1 at r1 ⊢
  have r2 : r32 (zH0 w.2 0 (w32 ((i : Int) + 2))) := zv_r
  generalize zH0 w.2 0 (w32 ((i : Int) + 2)) = v2 at r2 ⊢
  exact zcaseI (A := fun H => zAr H (decide (0 ≤ v2 ∧ v2 ≤ 1)) v1 (zfpk v2)) zAr_con hR (fun hD hW => b115 (d := 1993) hMR hD hW) (fun H1 hD => b232 (d := 1993) hMR hD) (fun x y H' hk e => nx H' hk))
theorem l1345 {w : zWt} (hw : w.1 ≤ 3072) (hMR : zMR) : zLaw w (zKept zAllR) 1345 := fun H i hi hR K nx => x0_1345 (d := 1999) (by
  refine ⟨zidx hw hi (by decide) (by decide), zidx hw hi (by decide) (by decide), ?_⟩
  have r1 : r32 (zH0 w.2 0 (w32 ((i : Int) + 1))) := zv_r
  generalize zH0 w.2 0 (w32 ((i : Int) + 1)) = v1 at r1 ⊢
  have r2 : r32 (zH0 w.2 0 (w32 ((i : Int) + 2))) := zv_r
  generalize zH0 w.2 0 (w32 ((i : Int) + 2)) = v2 at r2 ⊢
  exact zcaseL (A := fun H => zAr H (decide (0 ≤ v2 ∧ v2 ≤ 2)) v1 (zftot v2)) zAr_con hR (fun hD hW => b120 (d := 1993) hMR hD hW) (fun H1 hD => b235 (d := 1993) hMR hD) (fun x y H' hk e => nx H' hk))
theorem l1379 {w : zWt} (hw : w.1 ≤ 3072) (hMR : zMR) : zLaw w (zKept zAllR) 1379 := fun H i hi hR K nx => x0_1379 (d := 1999) (by
  refine ⟨zidx hw hi (by decide) (by decide), zidx hw hi (by decide) (by decide), ?_⟩
  have r1 : r32 (zH0 w.2 0 (w32 ((i : Int) + 1))) := zv_r
  generalize zH0 w.2 0 (w32 ((i : Int) + 1)) = v1 at r1 ⊢
  have r2 : r32 (zH0 w.2 0 (w32 ((i : Int) + 2))) := zv_r
  generalize zH0 w.2 0 (w32 ((i : Int) + 2)) = v2 at r2 ⊢
  exact zcaseI (A := fun H => zAr H (decide (0 ≤ v2 ∧ v2 ≤ 2147483647)) v1 (zfgr v2)) zAr_con hR (fun hD hW => b121 (d := 1993) hMR hD hW r2) (fun H1 hD => b236 (d := 1993) hMR hD r2) (fun x y H' hk e => nx H' hk))
