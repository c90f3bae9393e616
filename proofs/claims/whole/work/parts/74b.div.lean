/-! the case divisor -/
def zfdD (H H' : zHt) : Prop := ∀ a j : Int, a ≠ 87 → ¬ (a = 81 ∧ j = 12) → H' a j = H a j
theorem zfdD_keep {H H' : zHt} (h : zfdD H H') : zkeep H H' := fun a j q => h a j (fun z => by subst z; cases q) (fun z => by obtain ⟨rfl, rfl⟩ := z; cases q)
theorem zmf_fd {H0 H H1 : zHt} (h : zmf H0 H) (f : zfdD H H1) : zmf H0 H1 := zmf_tr h ⟨zfdD_keep f, f 32 14 (by decide) (by decide)⟩
/-- the divisors laid so far -/
def zDv (H : zHt) (l : List Nat) : Prop := H 81 12 = (l.length : Int) ∧ ∀ i : Nat, i < l.length → H 87 i = ((l.getD i 0 : Nat) : Int)
theorem zDv_app {H : zHt} {l : List Nat} {x : Nat} (hl : l.length < 1400) (h : zDv H l) : zDv (zup (zup H 87 (H 81 12) (x : Int)) 81 12 (w32 (H 81 12 + 1))) (l ++ [x]) := by
  refine ⟨?_, fun i hi => ?_⟩
  · rw [zq_eq, h.1, w32_id (by omega), List.length_append]; rfl
  · rw [List.length_append] at hi
    have hi : i < l.length + 1 := hi
    rw [zq_ne (by omega), h.1]
    by_cases z : i = l.length
    · subst z
      rw [zq_eq, List.getD_eq_getElem?_getD, List.getElem?_append_right (Nat.le_refl _), Nat.sub_self]; rfl
    · rw [zq_ne (by omega), zgetD_app (by omega)]
      exact h.2 i (by omega)
theorem zfdD_app {H0 H : zHt} {i x y : Int} (h : zfdD H0 H) : zfdD H0 (zup (zup H 87 i x) 81 12 y) := fun a j h1 h2 => by
  rw [zq_ne h2, zq_ne (fun q => h1 q.1)]; exact h a j h1 h2
section Z74
variable {w : zWt} {d : Nat} {H : zHt}
theorem c195 {x : Int} {K : Int → zHt → Prop} (h : 0 ≤ H 81 12 ∧ H 81 12 < 1400) : zclI w d 195 [zR 81, zI x] H K = K (w32 (H 81 12 + 1)) (zup H 87 (H 81 12) x) := zclI_eq fun K hK => x195_0 ⟨h, hK⟩
theorem c194a {H0 : zHt} {n r : Nat} {Q : zV → zHt → Prop} {K : zHt → Prop} (hQ : Q = zQV K) (hn : n ≤ 999999999) (hr : r * r ≤ n ∧ n < (r + 1) * (r + 1)) (hb : (zdlo n r).length ≤ 1400) : ∀ (c k : Nat) (H : zHt), k + c = r → zfdD H0 H → zDv H (zdlo n k) → (∀ H', zfdD H0 H' → zDv H' (zdlo n r) → zgo w (d + 1) 194 42 [zR 81, zI n, zI r] [] H' Q) → zgo w (d + 1) 194 7 [zR 81, zI n, zI ((k + 1 : Nat) : Int)] [] H Q := by
  subst hQ
  have hrb := zsq_lt (show r * r ≤ 999999999 by omega)
  intro c
  induction c with
  | zero =>
    intro k H hk hf hD hK
    have : k = r := by omega
    subst this
    have e1 : w64 (((k + 1 : Nat) : Int) * ((k + 1 : Nat) : Int)) = (((k + 1) * (k + 1) : Nat) : Int) := by
      rw [← Int.natCast_mul]
      exact w64_id (by have := Nat.mul_le_mul (show k + 1 ≤ 31623 by omega) (show k + 1 ≤ 31623 by omega); omega)
    refine x194_7 ⟨fun _ => ?_, fun q => by rw [e1] at q; omega⟩
    rw [show w32 (((k + 1 : Nat) : Int) + -1) = (k : Int) by rw [w32_id (by omega)]; omega]
    exact hK H hf hD
  | succ c ih =>
    intro k H hk hf hD hK
    have e1 : w64 (((k + 1 : Nat) : Int) * ((k + 1 : Nat) : Int)) = (((k + 1) * (k + 1) : Nat) : Int) := by
      rw [← Int.natCast_mul]
      exact w64_id (by have := Nat.mul_le_mul (show k + 1 ≤ 31623 by omega) (show k + 1 ≤ 31623 by omega); omega)
    have h2 := (zsq_le (d := k + 1) hr).mpr (by omega)
    refine x194_7 ⟨fun q => by rw [e1] at q; omega, fun _ => ⟨by omega, fun q => ?_, fun q => ?_⟩⟩
    · rw [ztmod] at q
      rw [zi1 (by omega)]
      refine ih (k + 1) H (by omega) hf ?_ hK
      rw [zdlo_s, if_neg (by omega), List.append_nil]; exact hD
    · rw [ztmod] at q
      have hq : n % (k + 1) = 0 := by omega
      obtain ⟨t, ht⟩ := zdlo_le (n := n) (show k + 1 ≤ r by omega)
      have hl : (zdlo n k).length < 1400 := by
        rw [zdlo_s, if_pos hq] at ht
        rw [ht, List.length_append, List.length_append] at hb
        have hb : (zdlo n k).length + 1 + t.length ≤ 1400 := hb
        omega
      rw [c195 (by rw [hD.1]; omega), zi1 (by omega)]
      refine ih (k + 1) _ (by omega) (zfdD_app hf) ?_ hK
      rw [zdlo_s, if_pos hq]
      exact zDv_app hl hD
theorem c194b {H0 : zHt} {n : Nat} (hn : n ≤ 999999999) (hb : (zdlo n n).length ≤ 1400) : ∀ (k : Nat) (H : zHt) (P : List Nat), k ≤ 31622 → zfdD H0 H → P ++ zdhi n k = zdlo n n → zDv H P → zgo w (d + 1) 194 42 [zR 81, zI n, zI (k : Int)] [] H (zQV fun H' => zfdD H0 H' ∧ zDv H' (zdlo n n)) := by
  intro k
  induction k with
  | zero =>
    intro H P hk hf hP hD
    refine x194_42 ⟨fun _ => ⟨hf, ?_⟩, fun q => by omega⟩
    rw [← hP]
    show zDv H (P ++ [])
    rw [List.append_nil]; exact hD
  | succ k ih =>
    intro H P hk hf hP hD
    rw [zdhi_s] at hP
    have e1 : w32 (((k + 1 : Nat) : Int) + -1) = (k : Int) := by rw [w32_id (by omega)]; omega
    refine x194_42 ⟨fun q => by omega, fun _ => ⟨by omega, fun q => ?_, fun q => ?_⟩⟩
    · rw [ztmod] at q
      rw [e1]
      rw [if_neg (by omega)] at hP
      exact ih H P (by omega) hf hP hD
    · rw [ztmod] at q
      have hq : n % (k + 1) = 0 := by omega
      have hle : n / (k + 1) ≤ n := Nat.div_le_self _ _
      rw [ztdiv, zw32n hle hn, e1]
      refine ⟨fun q2 => ?_, fun q2 => ?_⟩
      · rw [if_neg (by omega)] at hP
        exact ih H P (by omega) hf hP hD
      · rw [if_pos ⟨hq, by omega⟩, ← List.append_assoc] at hP
        have hl : P.length < 1400 := by
          rw [← hP, List.length_append, List.length_append] at hb
          have hb : P.length + 1 + (zdhi n k).length ≤ 1400 := hb
          omega
        rw [c195 (by rw [hD.1]; omega)]
        exact ih _ (P ++ [n / (k + 1)]) (by omega) (zfdD_app hf) hP (zDv_app hl hD)
/-- the model's list of divisors -/
theorem c194 {n : Nat} (h1 : 1 ≤ n) (hn : n ≤ 999999999) : ∃ H', (zfdD H H' ∧ zDv H' (zdlo n n)) ∧ ∀ K : zHt → Prop, zclV w (d + 1) 194 [zR 81, zI n] H K = K H' := by
  obtain ⟨r, hr⟩ := zsqrt n
  have hG := zfac_good w h1 hn
  have hb := (zdlo_len h1 hn hG).2
  have e := zdlo_hi h1 hr
  have hrb := zsq_lt (show r * r ≤ 999999999 by omega)
  refine zclV_ex (x194_0 ?_)
  refine c194a (r := r) rfl hn hr ?_ r 0 _ (by omega) (H0 := H) (fun a j q1 q2 => zq_ne q2) ⟨zq_eq, fun i hi => by cases hi⟩ (fun H' f D => c194b hn hb r H' (zdlo n r) (by omega) f e D)
  rw [← e, List.length_append] at hb
  omega
/-- the class's search from below -/
theorem c72l {n r k : Nat} {K : Int → zHt → Prop} (hn : n ≤ 999999999) (hr : r * r ≤ n ∧ n < (r + 1) * (r + 1)) (hk : k < (zdlo n r).length) (hK : K (((zdlo n r).getD k 0 : Nat) : Int) H) : ∀ (c j : Nat), j + c = r → (zdlo n j).length ≤ k → zgo w d 72 4 [zI n, zI k, zI ((zdlo n j).length : Int), zI ((j + 1 : Nat) : Int)] [] H (zQI K) := by
  have hrb := zsq_lt (show r * r ≤ 999999999 by omega)
  intro c
  induction c with
  | zero =>
    intro j hj hl
    have : j = r := by omega
    subst this
    omega
  | succ c ih =>
    intro j hj hl
    have h2 := (zsq_le (d := j + 1) hr).mpr (by omega)
    have h3 : j + 1 ≤ n / (j + 1) := (Nat.le_div_iff_mul_le (by omega)).mpr h2
    have hle : n / (j + 1) ≤ n := Nat.div_le_self _ _
    obtain ⟨t, ht⟩ := zdlo_le (n := n) (show j + 1 ≤ r by omega)
    have hlr : (zdlo n j).length ≤ j := by
      have := znd_le (l := zdlo n j) (l' := List.range' 1 j) (zsrt_nd zdlo_srt) (fun x hx => by
        have := zdlo_mem.mp hx
        rw [List.mem_range'_1]; omega)
      rw [List.length_range'] at this; exact this
    refine x72_4 ⟨by omega, ?_⟩
    rw [ztdiv, zw32n hle hn, ztmod, zi1 (m := (zdlo n j).length) (by omega), zi1 (m := j + 1) (by omega)]
    refine ⟨fun q => by omega, fun _ => ⟨fun q => ⟨fun q2 => ?_, fun q2 => ?_⟩, fun q => ?_⟩⟩
    · have hq : n % (j + 1) = 0 := by omega
      have e : (zdlo n (j + 1)).length = (zdlo n j).length + 1 := by
        rw [zdlo_s, if_pos hq, List.length_append]; rfl
      have := ih (j + 1) (by omega) (by rw [e]; omega)
      rw [e] at this
      exact this
    · have hq : n % (j + 1) = 0 := by omega
      have hk2 : k = (zdlo n j).length := by omega
      rw [zdlo_s, if_pos hq] at ht
      rw [ht, hk2, List.append_assoc, List.getD_eq_getElem?_getD, List.getElem?_append_right (Nat.le_refl _), Nat.sub_self] at hK
      exact hK
    · have e : zdlo n (j + 1) = zdlo n j := by rw [zdlo_s, if_neg (by omega), List.append_nil]
      have := ih (j + 1) (by omega) (by rw [e]; exact hl)
      rw [e] at this
      exact this
theorem c72 {n k : Nat} {K : Int → zHt → Prop} (h1 : 1 ≤ n) (hn : n ≤ 999999999) (hk : 2 * k < (zdlo n n).length) : zclI w d 72 [zI n, zI k] H K = K (((zdlo n n).getD k 0 : Nat) : Int) H := by
  obtain ⟨r, hr⟩ := zsqrt n
  have e := zdlo_hi h1 hr
  have hl := zdhi_le (n := n) (k := r)
  have hk2 : k < (zdlo n r).length := by
    rw [← e, List.length_append] at hk
    omega
  rw [← e, zgetD_app hk2]
  exact zclI_eq fun K hK => x72_0 (c72l hn hr hk2 hK r 0 (by omega) (Nat.zero_le _))
end Z74
noncomputable def zAdiv (v k : Int) : Int × Int := if (1 ≤ v ∧ v ≤ 999999999) ∧ -1 ≤ k then (if k = -1 then (0, ((zdlo v.toNat v.toNat).length : Int)) else if ((zdlo v.toNat v.toNat).length : Int) ≤ k then (5, -1) else (0, (((zdlo v.toNat v.toNat).getD k.toNat 0 : Nat) : Int))) else (1, -1)
section Z74c
variable {w : zWt} {d : Nat} {H : zHt}
theorem b70 {v k : Int} (hMR : zMR) (rk : r32 k) : zclI w (d + 4) 70 [zR 32, zI v, zI k] H (zPC H (zAdiv v k)) := by
  unfold zAdiv
  by_cases hg : (1 ≤ v ∧ v ≤ 999999999) ∧ -1 ≤ k
  · rw [if_pos hg]
    obtain ⟨n, rfl⟩ : ∃ n : Nat, v = n := ⟨v.toNat, by omega⟩
    rw [Int.toNat_natCast]
    have h1 : 1 ≤ n := by omega
    have hn : n ≤ 999999999 := by omega
    have hG := zfac_good w h1 hn
    obtain ⟨H1, f, e⟩ := c71 (w := w) (d := d) (H := H) (n := n) hMR h1 hn
    obtain ⟨L1, L2⟩ := zdlo_len h1 hn hG
    have ea : zcnt (zfac n) = ((zdlo n n).length : Int) := by rw [L1]; exact (zcnt_n hn hG).1
    have F : zcf H H1 := zcf_fc zcf_rfl f
    refine x70_0 ?_
    simp only [c43, zit0, Classical.not_not]
    refine ⟨fun q => absurd hg.1 q, fun _ => ⟨fun _ => ?_, fun q => by omega⟩⟩
    rw [e, ea]
    refine ⟨fun q => ⟨fun q2 => ?_, fun q2 => ?_⟩, fun q => ?_⟩
    · obtain ⟨m, rfl⟩ : ∃ m : Nat, k = m := ⟨k.toNat, by omega⟩
      rw [if_neg (by omega), if_neg (by omega), Int.toNat_natCast]
      have hm : m < (zdlo n n).length := by omega
      rw [w32_id (show _ ≤ 2 * (m : Int) ∧ _ by omega)]
      refine ⟨fun q3 => ?_, fun q3 => ?_⟩
      · rw [w32_id (show _ ≤ ((zdlo n n).length : Int) - 1 ∧ _ by omega), w32_id (show _ ≤ ((zdlo n n).length : Int) - 1 - m ∧ _ by omega), show ((zdlo n n).length : Int) - 1 - (m : Int) = (((zdlo n n).length - 1 - m : Nat) : Int) by omega, c72 h1 hn (by omega)]
        have hj : (zdlo n n).length - 1 - m < (zdlo n n).length := by omega
        have hmem : (zdlo n n).getD ((zdlo n n).length - 1 - m) 0 ∈ zdlo n n := by
          rw [List.getD_eq_getElem?_getD, List.getElem?_eq_getElem hj]
          exact List.getElem_mem hj
        have hx := zdlo_mem.mp hmem
        have eq := zdlo_at h1 hm
        generalize (zdlo n n).getD ((zdlo n n).length - 1 - m) 0 = x at hx eq
        have ei : (if (1 : Int) < (x : Int) then (x : Int) else 1) = (x : Int) := by
          by_cases z : (1 : Int) < (x : Int)
          · rw [if_pos z]
          · rw [if_neg z]; omega
        have hle : n / x ≤ n := Nat.div_le_self _ _
        rw [ei, ztdiv, zw32n hle hn]
        exact ⟨by omega, zPC_d F (by rw [eq])⟩
      · rw [c72 h1 hn (by omega)]
        exact zPC_d F rfl
    · rw [if_neg (by omega), if_pos (by omega)]
      exact zPC_r F rfl
    · rw [if_pos q]
      exact zPC_d F rfl
  · have eA : (1, -1) = ((1 : Int), (-1 : Int)) := rfl
    rw [if_neg hg]
    refine x70_0 ?_
    simp only [c43, zit0, Classical.not_not]
    repeat' (first | exact zPC_r zcf_rfl eA | omega | intro _ | with_reducible refine And.intro ?_ ?_)
theorem b192 {v k : Int} (rk : r32 k) : zclI w (d + 3) 192 [zR 81, zI v, zI k] H (zPM H (zAdiv v k)) := by
  unfold zAdiv
  by_cases hg : (1 ≤ v ∧ v ≤ 999999999) ∧ -1 ≤ k
  · rw [if_pos hg]
    obtain ⟨n, rfl⟩ : ∃ n : Nat, v = n := ⟨v.toNat, by omega⟩
    rw [Int.toNat_natCast]
    have h1 : 1 ≤ n := by omega
    have hn : n ≤ 999999999 := by omega
    have hG := zfac_good w h1 hn
    obtain ⟨L1, L2⟩ := zdlo_len h1 hn hG
    have ea : zcnt (zfac n) = ((zdlo n n).length : Int) := by rw [L1]; exact (zcnt_n hn hG).1
    obtain ⟨H1, F1, e1⟩ := c193 (w := w) (d := d + 1) (H := zst H 0) (n := n) h1 hn
    obtain ⟨H2, ⟨F2, D2⟩, e2⟩ := c194 (w := w) (d := d + 1) (H := zst H 0) (n := n) h1 hn
    have P : zgo w (d + 3) 192 18 [zR 81, zI n, zI k] [zI 0, zR 81] H (zQI (zPM H (if k = -1 then (0, ((zdlo n n).length : Int)) else if ((zdlo n n).length : Int) ≤ k then (5, -1) else (0, (((zdlo n n).getD k.toNat 0 : Nat) : Int))))) := by
      refine x192_18 ?_
      rw [c174_0]
      refine ⟨fun _ => ⟨fun q => ?_, fun q => ?_⟩, fun q => absurd q (by decide)⟩
      · rw [e2, D2.1, if_neg q]
        have F : zmf H H2 := zmf_fd (zst_f zmf_rfl) F2
        have h0 : H2 81 0 = 0 := by rw [F2 81 0 (by decide) (by decide)]; exact zst_0
        refine ⟨fun q2 => ?_, fun q2 => ⟨by omega, ?_⟩⟩
        · rw [if_pos q2]; exact zPM_r F rfl
        · rw [if_neg (by omega)]
          obtain ⟨m, rfl⟩ : ∃ m : Nat, k = m := ⟨k.toNat, by omega⟩
          rw [Int.toNat_natCast, D2.2 m (by omega)]
          exact zPM_0 F h0 rfl
      · rw [e1, if_pos q, ea]
        exact zPM_0 (zmf_fm (zst_f zmf_rfl) F1.1) (by rw [F1.1 81 0 (by decide) (by decide) (by decide)]; exact zst_0) rfl
    refine x192_0 ?_
    simp only [c176, zit0, Classical.not_not]
    exact ⟨fun q => absurd hg.1 q, fun _ => ⟨fun q => by omega, fun _ => P⟩⟩
  · rw [if_neg hg]
    have P : zgo w (d + 3) 192 18 [zR 81, zI v, zI k] [zI 1, zR 81] H (zQI (zPM H (1, -1))) := by
      refine x192_18 ?_
      rw [c174_1]
      exact ⟨fun q => absurd rfl q, fun _ => zPM_n zmf_rfl rfl⟩
    refine x192_0 ?_
    simp only [c176, zit0, Classical.not_not]
    exact ⟨fun _ => P, fun q => ⟨fun _ => P, fun q2 => absurd ⟨q, q2⟩ hg⟩⟩
end Z74c
theorem l548 {w : zWt} (hw : w.1 ≤ 3072) (hMR : zMR) : zLaw w (zKept zAllR) 548 := fun H i hi hR K nx => x0_548 (d := 1999) (by
  refine ⟨zidx hw hi (by decide) (by decide), zidx hw hi (by decide) (by decide), ?_⟩
  have r1 : r32 (zH0 w.2 0 (w32 ((i : Int) + 1))) := zv_r
  generalize zH0 w.2 0 (w32 ((i : Int) + 1)) = v1 at r1 ⊢
  have r2 : r32 (zH0 w.2 0 (w32 ((i : Int) + 2))) := zv_r
  generalize zH0 w.2 0 (w32 ((i : Int) + 2)) = v2 at r2 ⊢
  exact zcaseI (A := fun H => zAdiv v1 v2) (fun H H1 h => by simp only [h 40 4 rfl, h 40 1 rfl, h 40 2 rfl, h 40 3 rfl]) hR (fun hD hW => b70 (d := 1995) hMR r2) (fun H1 hD => b192 (d := 1996) r2) (fun x y H' hk e => nx H' hk))
