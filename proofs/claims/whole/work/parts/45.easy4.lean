/-! the cases euclid, counts, euler, kins, untouched -/
def zcn (P : Nat → Bool) : Nat → Nat → Nat
  | 0, _ => 0
  | c + 1, m => (if P m = true then 1 else 0) + zcn P c (m + 1)
theorem zcn_t {P : Nat → Bool} {c m : Nat} (h : P m = true) : zcn P (c + 1) m = zcn P c (m + 1) + 1 := by
  show (if P m = true then 1 else 0) + zcn P c (m + 1) = _
  rw [if_pos h]; omega
theorem zcn_f {P : Nat → Bool} {c m : Nat} (h : P m = false) : zcn P (c + 1) m = zcn P c (m + 1) := by
  show (if P m = true then 1 else 0) + zcn P c (m + 1) = _
  rw [h]; simp
theorem zcn_le {P : Nat → Bool} : ∀ {c m : Nat}, zcn P c m ≤ c
  | 0, _ => Nat.le_refl _
  | c + 1, m => by
    have := zcn_le (P := P) (c := c) (m := m + 1)
    cases h : P m with
    | true => rw [zcn_t h]; omega
    | false => rw [zcn_f h]; omega
theorem zcn_add {P : Nat → Bool} : ∀ {x y m : Nat}, zcn P (x + y) m = zcn P x m + zcn P y (m + x)
  | 0, y, m => by simp [zcn]
  | x + 1, y, m => by
    rw [show x + 1 + y = (x + y) + 1 by omega]
    have ih := zcn_add (P := P) (x := x) (y := y) (m := m + 1)
    rw [show m + 1 + x = m + (x + 1) by omega] at ih
    cases h : P m with
    | true => rw [zcn_t h, zcn_t h, ih]; omega
    | false => rw [zcn_f h, zcn_f h, ih]
theorem zcn_congr {P Q : Nat → Bool} : ∀ {c m : Nat}, (∀ i, m ≤ i → i < m + c → P i = Q i) → zcn P c m = zcn Q c m
  | 0, _, _ => rfl
  | c + 1, m, h => by
    have ih := zcn_congr (P := P) (Q := Q) (c := c) (m := m + 1) (fun i h1 h2 => h i (by omega) (by omega))
    have hm := h m (by omega) (by omega)
    cases hp : P m with
    | true => rw [zcn_t hp, zcn_t (hm ▸ hp), ih]
    | false => rw [zcn_f hp, zcn_f (hm ▸ hp), ih]
-- euclid
def zeo (p : Int) : Int := w32 (zshl 1 p - 1)
def zen (p : Int) : Int := zshl (zeo p) (w32 (p - 1))
theorem zeu_b {p : Int} (h : 2 ≤ p ∧ p ≤ 15) : (1 ≤ zeo p ∧ zeo p ≤ 999999999) ∧ 1 ≤ zen p ∧ zen p ≤ 999999999 := by
  have a : (List.range 14).all (fun k => decide ((1 ≤ zeo ((k : Int) + 2) ∧ zeo ((k : Int) + 2) ≤ 999999999) ∧ 1 ≤ zen ((k : Int) + 2) ∧ zen ((k : Int) + 2) ≤ 999999999)) = true := by decide +kernel
  have := of_decide_eq_true (List.all_eq_true.mp a (p - 2).toNat (List.mem_range.mpr (by omega)))
  rw [show (((p - 2).toNat : Nat) : Int) + 2 = p by omega] at this
  exact this
noncomputable def zAeuc (p t : Int) : Int × Int := if (2 ≤ p ∧ p ≤ 15) ∧ 0 ≤ t ∧ t ≤ 2 then (0, if t = 0 then zisp (zeo p).toNat else if t = 1 then zen p else zkind2 0 (zen p).toNat) else (1, -1)
theorem zispl_01 {l : List (Nat × Nat)} : zispl l = 0 ∨ zispl l = 1 := by
  unfold zispl
  split
  · exact Or.inr rfl
  · exact Or.inl rfl
theorem zisp_01 {n : Nat} : zisp n = 0 ∨ zisp n = 1 := by
  unfold zisp
  split
  · exact zispl_01
  · exact Or.inl rfl
noncomputable def zctd (law t : Int) (n : Nat) : Int := if t = 3 then zisp n else if t = 4 then zdrv n else if zkind2 law n = t then 1 else 0
theorem zctd_01 {law t : Int} {n : Nat} : zctd law t n = 0 ∨ zctd law t n = 1 := by
  unfold zctd
  split
  · exact zisp_01
  · split
    · exact zdrv_01
    · split
      · exact Or.inr rfl
      · exact Or.inl rfl
noncomputable def zPctd (law t : Int) (n : Nat) : Bool := decide (¬ zctd law t n = 0)
noncomputable def zActs (law a b t : Int) : Int × Int := if ((1 ≤ a ∧ a ≤ 999999999) ∧ (1 ≤ b ∧ b ≤ 999999999) ∧ a ≤ b ∧ b - a ≤ 500) ∧ 0 ≤ t ∧ t ≤ 4 then (0, (zcn (zPctd law t) (b + 1 - a).toNat a.toNat : Int)) else (1, -1)
-- euler
def zef (k m : Int) : Int := w32 (zshl 1 (w32 (k - m)) + 1)
def zep (k m : Int) : Int := w32 (zshl (zef k m) m - 1)
def zeq (k m : Int) : Int := w32 (zshl (zef k m) k - 1)
def zer (k m : Int) : Int := w32 (zshl (w32 (zef k m * zef k m)) (w32 (k + m)) - 1)
def zel (k m : Int) : Prop := (1 ≤ zep k m ∧ zep k m ≤ 999999999) ∧ (1 ≤ zeq k m ∧ zeq k m ≤ 999999999) ∧ (1 ≤ zer k m ∧ zer k m ≤ 999999999) ∧ w32 (w32 (zshl 1 m * zef k m) - 1) = zep k m ∧ w32 (w32 (zshl 1 k * zef k m) - 1) = zeq k m ∧ w32 (w32 (w32 (zshl 1 (w32 (k + m)) * zef k m) * zef k m) - 1) = zer k m ∧ w64 (w64 (zshlL 1 k * zep k m) * zeq k m) = w64 (zshlL (zep k m) k * zeq k m) ∧ w64 (zshlL 1 k * zer k m) = zshlL (zer k m) k
theorem zel_all {k m : Int} (h : 2 ≤ k ∧ k ≤ 9) (hm : 1 ≤ m ∧ m < k) : zel k m := by
  have a : (List.range 8).all (fun k => (List.range 8).all (fun m => ! decide (((m : Int) + 1) < (k : Int) + 2) || decide ((1 ≤ zep ((k : Int) + 2) ((m : Int) + 1) ∧ zep ((k : Int) + 2) ((m : Int) + 1) ≤ 999999999) ∧ (1 ≤ zeq ((k : Int) + 2) ((m : Int) + 1) ∧ zeq ((k : Int) + 2) ((m : Int) + 1) ≤ 999999999) ∧ (1 ≤ zer ((k : Int) + 2) ((m : Int) + 1) ∧ zer ((k : Int) + 2) ((m : Int) + 1) ≤ 999999999) ∧ w32 (w32 (zshl 1 ((m : Int) + 1) * zef ((k : Int) + 2) ((m : Int) + 1)) - 1) = zep ((k : Int) + 2) ((m : Int) + 1) ∧ w32 (w32 (zshl 1 ((k : Int) + 2) * zef ((k : Int) + 2) ((m : Int) + 1)) - 1) = zeq ((k : Int) + 2) ((m : Int) + 1) ∧ w32 (w32 (w32 (zshl 1 (w32 ((k : Int) + 2 + ((m : Int) + 1))) * zef ((k : Int) + 2) ((m : Int) + 1)) * zef ((k : Int) + 2) ((m : Int) + 1)) - 1) = zer ((k : Int) + 2) ((m : Int) + 1) ∧ w64 (w64 (zshlL 1 ((k : Int) + 2) * zep ((k : Int) + 2) ((m : Int) + 1)) * zeq ((k : Int) + 2) ((m : Int) + 1)) = w64 (zshlL (zep ((k : Int) + 2) ((m : Int) + 1)) ((k : Int) + 2) * zeq ((k : Int) + 2) ((m : Int) + 1)) ∧ w64 (zshlL 1 ((k : Int) + 2) * zer ((k : Int) + 2) ((m : Int) + 1)) = zshlL (zer ((k : Int) + 2) ((m : Int) + 1)) ((k : Int) + 2)))) = true := by decide +kernel
  have b := List.all_eq_true.mp (List.all_eq_true.mp a (k - 2).toNat (List.mem_range.mpr (by omega))) (m - 1).toNat (List.mem_range.mpr (by omega))
  rw [show (((k - 2).toNat : Nat) : Int) + 2 = k by omega, show (((m - 1).toNat : Nat) : Int) + 1 = m by omega, decide_eq_true hm.2] at b
  simp only [Bool.not_true, Bool.false_or] at b
  have c := of_decide_eq_true b
  exact c
noncomputable def zeh (k m : Int) : Int := if zisp (zep k m).toNat = 0 then 0 else if zisp (zeq k m).toNat = 0 then 0 else if zisp (zer k m).toNat = 0 then 0 else 1
noncomputable def zAel (k m t : Int) : Int × Int := if (2 ≤ k ∧ k ≤ 9) ∧ (1 ≤ m ∧ m < k) ∧ 0 ≤ t ∧ t ≤ 5 then (if 3 < t ∧ zeh k m = 0 then (5, -1) else (0, if t = 0 then zeh k m else if t = 1 then zep k m else if t = 2 then zeq k m else if t = 3 then zer k m else if t = 4 then w64 (zshlL (zep k m) k * zeq k m) else zshlL (zer k m) k)) else (1, -1)
-- kins
noncomputable def zPks (a i j : Nat) : Bool := decide (j ≠ i ∧ w64 (zall (zfac (a + j)) * ((a + i : Nat) : Int)) = w64 (zall (zfac (a + i)) * ((a + j : Nat) : Int)))
noncomputable def zKl (t : Int) (a size : Nat) : Nat → Nat → Nat → Nat → Nat → Nat → Int × Int
  | 0, _, u, r, mo, be => if t = 2 then (if mo = 0 then (5, -1) else (0, (be : Int))) else (0, if t = 0 then (u : Int) else (r : Int))
  | c + 1, i, u, r, mo, be => zKl t a size c (i + 1) (if zcn (zPks a i) i 0 = 0 then u + 1 else u) (if 0 < zcn (zPks a i) size 0 then r + 1 else r) (if mo < zcn (zPks a i) size 0 then zcn (zPks a i) size 0 else mo) (if mo < zcn (zPks a i) size 0 then a + i else be)
noncomputable def zAks (a b t : Int) : Int × Int := if ((1 ≤ a ∧ a ≤ 999999999) ∧ (1 ≤ b ∧ b ≤ 999999999) ∧ a ≤ b ∧ b - a ≤ 200) ∧ 0 ≤ t ∧ t ≤ 2 then zKl t a.toNat (b + 1 - a).toNat (b + 1 - a).toNat 0 0 0 0 0 else (1, -1)
theorem zks_split {a i size : Nat} (h : i < size) : zcn (zPks a i) size 0 = zcn (zPks a i) i 0 + zcn (zPks a i) (size - 1 - i) (i + 1) := by
  have e : size = i + (1 + (size - 1 - i)) := by omega
  have h1 : zcn (zPks a i) 1 i = 0 := by
    rw [zcn_f (decide_eq_false (fun z => z.1 rfl))]; rfl
  rw [show zcn (zPks a i) size 0 = zcn (zPks a i) (i + (1 + (size - 1 - i))) 0 from congrArg (fun s => zcn (zPks a i) s 0) e, zcn_add, zcn_add, Nat.zero_add, h1]
  omega
-- untouched
noncomputable def zhas (law : Int) (v : Nat) : Nat → Bool
  | 0 => false
  | M + 1 => zhas law v M || decide (zsum law (M + 1) = v)
theorem zhas_iff {law : Int} {v : Nat} : ∀ {M : Nat}, zhas law v M = true ↔ ∃ i : Nat, 1 ≤ i ∧ i ≤ M ∧ zsum law i = v
  | 0 => ⟨fun h => (Bool.noConfusion h), fun ⟨i, h1, h2, _⟩ => by omega⟩
  | M + 1 => by
    unfold zhas
    rw [Bool.or_eq_true, zhas_iff, decide_eq_true_eq]
    constructor
    · rintro (⟨i, h1, h2, h3⟩ | h)
      · exact ⟨i, h1, by omega, h3⟩
      · exact ⟨M + 1, by omega, by omega, h⟩
    · rintro ⟨i, h1, h2, h3⟩
      by_cases z : i = M + 1
      · subst z; exact Or.inr h3
      · exact Or.inl ⟨i, h1, by omega, h3⟩
noncomputable def zUl (law : Int) (M : Nat) (t : Int) : Nat → Nat → Nat → Nat → Int × Int
  | 0, _, f, la => if t = 0 then (0, (f : Int)) else if f = 0 then (5, -1) else (0, (la : Int))
  | c + 1, m, f, la => if zhas law m M = true then zUl law M t c (m + 1) f la else zUl law M t c (m + 1) (f + 1) m
noncomputable def zAun (law n m t : Int) : Int × Int := if (1 ≤ n ∧ n ≤ 500) ∧ (1 ≤ m ∧ m ≤ 2000) ∧ 0 ≤ t ∧ t ≤ 1 then zUl law m.toNat t n.toNat 1 0 0 else (1, -1)
theorem zsk_has {law : Int} {v : Nat} : ∀ {c m : Nat}, (∃ i : Nat, m ≤ i ∧ i < m + c ∧ zsum law i = v) → 0 ≤ (zsk (zPsum law v) zhit (zfin 0) 0 c m 0).2
  | 0, m, ⟨i, h1, h2, _⟩ => by omega
  | c + 1, m, ⟨i, h1, h2, h3⟩ => by
    by_cases z : zsum law m = v
    · rw [zsk_h (P := zPsum law v) (k := 0) (f := 0) (decide_eq_true z) rfl]
      show (0 : Int) ≤ (m : Int)
      omega
    · rw [zsk_f (P := zPsum law v) (decide_eq_false z)]
      refine zsk_has ⟨i, ?_, by omega, h3⟩
      by_cases y : i = m
      · subst y; exact absurd h3 z
      · omega
theorem zsk_no {law : Int} {v : Nat} : ∀ {c m : Nat}, (∀ i : Nat, m ≤ i → i < m + c → ¬ zsum law i = v) → (zsk (zPsum law v) zhit (zfin 0) 0 c m 0).2 = -1
  | 0, m, _ => rfl
  | c + 1, m, h => by
    rw [zsk_f (P := zPsum law v) (decide_eq_false (h m (by omega) (by omega)))]
    exact zsk_no (fun i h1 h2 => h i (by omega) (by omega))
section Z45
variable {w : zWt} {d : Nat} {H : zHt}
theorem zio {n : Int} (h : 1 ≤ n) : n = ((n.toNat : Nat) : Int) := by omega
theorem b102 {p t : Int} (hMR : zMR) : zclI w (d + 5) 102 [zR 32, zI p, zI t] H (zPC H (zAeuc p t)) := by
  unfold zAeuc
  by_cases hg : (2 ≤ p ∧ p ≤ 15) ∧ 0 ≤ t ∧ t ≤ 2
  · rw [if_pos hg]
    obtain ⟨⟨o1, o2⟩, n1, n2⟩ := zeu_b hg.1
    obtain ⟨H1, g1, e1⟩ := c103 (w := w) (d := d + 1) (H := H) (n := (zeo p).toNat) hMR (by omega) (by omega)
    obtain ⟨H2, g2, e2⟩ := c62 (w := w) (d := d) (H := H) (n := (zen p).toNat) (law := 0) hMR (by omega) (by omega) ⟨by decide, by decide⟩
    rw [← zio o1] at e1
    rw [← zio n1] at e2
    refine x102_0 ?_
    simp only [c43, c44, c81, zit0, Classical.not_not]
    refine ⟨fun q => by omega, fun _ => ⟨fun q => by omega, fun _ => ⟨fun _ => ⟨fun q => ?_, fun q => ?_, fun q q2 => ?_⟩, fun q => by omega⟩⟩⟩
    · rw [show w32 (zshl 1 p - 1) = zeo p from rfl, e1]
      rcases zisp_01 (n := (zeo p).toNat) with z | z
      · rw [z]; exact ⟨fun _ => zPC_d (zcf_fc zcf_rfl g1) (by rw [if_pos q]), fun q => absurd rfl q⟩
      · rw [z]; exact ⟨fun q => absurd q (by decide), fun _ => zPC_d (zcf_fc zcf_rfl g1) (by rw [if_pos q])⟩
    · exact zPC_d zcf_rfl (by rw [if_neg (by omega), if_pos q]; rfl)
    · rw [show zshl (w32 (zshl 1 p - 1)) (w32 (p - 1)) = zen p from rfl, e2]
      exact zPC_d (zcf_fc zcf_rfl g2) (by rw [if_neg q, if_neg q2])
  · have eA : (1, -1) = ((1 : Int), (-1 : Int)) := rfl
    rw [if_neg hg]
    refine x102_0 ?_
    simp only [c43, c44, c81, zit0, Classical.not_not]
    repeat' (first | exact zPC_r zcf_rfl eA | omega | intro _ | with_reducible refine And.intro ?_ ?_)
theorem b219 {p t : Int} : zclI w (d + 5) 219 [zR 81, zI p, zI t] H (zPM H (zAeuc p t)) := by
  unfold zAeuc
  by_cases hg : (2 ≤ p ∧ p ≤ 15) ∧ 0 ≤ t ∧ t ≤ 2
  · rw [if_pos hg]
    obtain ⟨⟨o1, o2⟩, n1, n2⟩ := zeu_b hg.1
    obtain ⟨H1, g1, e1⟩ := c220 (w := w) (d := d + 3) (H := zst H 0) (n := (zeo p).toNat) (by omega)
    obtain ⟨H2, g2, e2⟩ := c186 (w := w) (d := d + 1) (H := zst H 0) (n := (zen p).toNat) (law := 0) (by omega) (by omega)
    have s1 : H1 81 0 = 0 := (g1 81 0 (by decide) (by decide) (by decide)).trans rfl
    have s2 : H2 81 0 = 0 := (g2 81 0 (by decide) (by decide) (by decide)).trans rfl
    rw [← zio o1] at e1
    rw [← zio n1] at e2
    refine x219_0 ?_
    simp only [c176, c173, c201, c174_0, c174_1, c174_2, c174_3, c174_4, c174_5, zit0, z10a, z10b, Classical.not_not, not_true_eq_false, false_implies, true_implies, true_and, and_true]
    repeat' (first | omega | intro _ | with_reducible refine And.intro ?_ ?_)
    refine x219_32 ?_
    simp only [c176, c173, c201, c174_0, c174_1, c174_2, c174_3, c174_4, c174_5, zit0, z10a, z10b, Classical.not_not, not_true_eq_false, false_implies, true_implies, true_and, and_true]
    refine ⟨fun q => ⟨fun q2 => ?_, fun q2 => ?_⟩, fun q => ?_⟩
    · rw [show zshl (w32 (zshl 1 p - 1)) (w32 (p - 1)) = zen p from rfl, e2]
      exact zPM_0 (zmf_fm (zst_f zmf_rfl) g2) s2 (by rw [if_neg q, if_neg q2])
    · exact zPM_0 (zst_f zmf_rfl) rfl (by rw [if_neg q, if_pos q2]; rfl)
    · rw [show w32 (zshl 1 p - 1) = zeo p from rfl, e1]
      rcases zisp_01 (n := (zeo p).toNat) with z | z
      · rw [z]; exact ⟨fun _ => zPM_0 (zmf_fm (zst_f zmf_rfl) g1) s1 (by rw [if_pos q]), fun q => absurd rfl q⟩
      · rw [z]; exact ⟨fun q => absurd q (by decide), fun _ => zPM_0 (zmf_fm (zst_f zmf_rfl) g1) s1 (by rw [if_pos q])⟩
  · have eA : (1, -1) = ((1 : Int), (-1 : Int)) := rfl
    rw [if_neg hg]
    have L : zgo w (d + 5) 219 32 [zR 81, zI p, zI t, zJ] [zI 1, zR 81] H (zQI (zPM H (1, -1))) := by
      refine x219_32 ?_
      simp only [c176, c173, c201, c174_0, c174_1, c174_2, c174_3, c174_4, c174_5, zit0, z10a, z10b, Classical.not_not, not_true_eq_false, false_implies, true_implies, true_and, and_true]
      exact zPM_n zmf_rfl eA
    refine x219_0 ?_
    simp only [c176, c173, c201, c174_0, c174_1, c174_2, c174_3, c174_4, c174_5, zit0, z10a, z10b, Classical.not_not, not_true_eq_false, false_implies, true_implies, true_and, and_true]
    repeat' (first | exact L | omega | intro _ | with_reducible refine And.intro ?_ ?_)
-- counts
theorem c140 {n : Nat} {t : Int} (hMR : zMR) (h1 : 1 ≤ n) (hn : n ≤ 999999999) (hl : 0 ≤ H 40 4 ∧ H 40 4 ≤ 3) : ∃ H', zfc H H' ∧ ∀ K : Int → zHt → Prop, zclI w (d + 5) 140 [zR 32, zI n, zI t] H K = K (zctd (H 40 4) t n) H' := by
  unfold zctd
  by_cases t3 : t = 3
  · obtain ⟨H1, g, e⟩ := c103 (w := w) (d := d + 1) (H := H) (n := n) hMR h1 hn
    refine ⟨H1, g, fun K => zclI_eq fun K h => x140_0 ⟨fun q => absurd t3 q, fun _ => ?_⟩⟩
    rw [if_pos t3] at h
    rw [e]; exact ⟨zisp_01, h⟩
  · by_cases t4 : t = 4
    · obtain ⟨H1, g, e⟩ := c68 (w := w) (d := d) (H := H) (n := n) hMR hn
      refine ⟨H1, g, fun K => zclI_eq fun K h => x140_0 ⟨fun _ => ⟨fun q => absurd t4 q, fun _ => ?_⟩, fun q => absurd q t3⟩⟩
      rw [if_neg t3, if_pos t4] at h
      rw [e]; exact ⟨zdrv_01, h⟩
    · obtain ⟨H1, g, e⟩ := c62 (w := w) (d := d) (H := H) (n := n) (law := H 40 4) hMR h1 hn hl
      refine ⟨H1, g, fun K => zclI_eq fun K h => x140_0 ⟨fun _ => ⟨fun _ => ?_, fun q => absurd q t4⟩, fun q => absurd q t3⟩⟩
      rw [if_neg t3, if_neg t4] at h
      rw [e]
      exact ⟨fun q => by rwa [if_neg q] at h, fun q => by rwa [if_pos q] at h⟩
theorem b139l {H0 : zHt} {b t : Int} {A : Int × Int} (hMR : zMR) (hD : zDk H0) (hb : b ≤ 999999999) : ∀ (c m f : Nat) (H : zHt), zcf H0 H → (m : Int) + c = b + 1 → 1 ≤ m → f + c ≤ 3000 → A = (0, ((f + zcn (zPctd (H0 40 4) t) c m : Nat) : Int)) → zgo w (d + 6) 139 31 [zR 32, zJ, zI b, zI t, zI f, zI m] [] H (zQI (zPC H0 A)) := by
  intro c
  induction c with
  | zero =>
    intro m f H hF hm m1 hf hA
    exact x139_31 ⟨fun _ => zPC_d hF hA, fun q => by omega⟩
  | succ c ih =>
    intro m f H hF hm m1 hf hA
    have el : H 40 4 = H0 40 4 := zcf_at hF rfl
    obtain ⟨H1, g, e⟩ := c140 (w := w) (d := d) (H := H) (n := m) (t := t) hMR (by omega) (by omega) (by rw [el]; exact hD.1)
    refine x139_31 ⟨fun q => by omega, fun _ => ?_⟩
    rw [e, zi1 (by omega), zi1 (by omega), el, show w32 ((f : Int) + 0) = (f : Int) by rw [w32_id (by omega)]; omega]
    refine ⟨fun q => ?_, fun q => ?_⟩
    · rw [zcn_f (decide_eq_false (fun z => z q))] at hA
      exact ih (m + 1) f H1 (zcf_fc hF g) (by omega) (by omega) (by omega) hA
    · rw [zcn_t (decide_eq_true q)] at hA
      exact ih (m + 1) (f + 1) H1 (zcf_fc hF g) (by omega) (by omega) (by omega) (by rw [hA, show f + 1 + zcn (zPctd (H0 40 4) t) c (m + 1) = f + (zcn (zPctd (H0 40 4) t) c (m + 1) + 1) by omega])
theorem b139 {a b t : Int} (hMR : zMR) (hD : zDk H) : zclI w (d + 6) 139 [zR 32, zI a, zI b, zI t] H (zPC H (zActs (H 40 4) a b t)) := by
  unfold zActs
  by_cases hg : ((1 ≤ a ∧ a ≤ 999999999) ∧ (1 ≤ b ∧ b ≤ 999999999) ∧ a ≤ b ∧ b - a ≤ 500) ∧ 0 ≤ t ∧ t ≤ 4
  · rw [if_pos hg]
    obtain ⟨m, rfl⟩ : ∃ m : Nat, a = m := ⟨a.toNat, by omega⟩
    refine x139_0 ?_
    simp only [c43, c44, c81, zit0, Classical.not_not]
    repeat' (first | omega | intro _ | with_reducible refine And.intro ?_ ?_)
    exact b139l hMR hD (by omega) (b + 1 - m).toNat m 0 H zcf_rfl (by omega) (by omega) (by omega) (by rw [Nat.zero_add, Int.toNat_natCast])
  · have eA : (1, -1) = ((1 : Int), (-1 : Int)) := rfl
    rw [if_neg hg]
    refine x139_0 ?_
    simp only [c43, c44, c81, zit0, Classical.not_not]
    repeat' (first | exact zPC_r zcf_rfl eA | omega | intro _ | with_reducible refine And.intro ?_ ?_)
theorem b251l {H0 : zHt} {law b t : Int} {A : Int × Int} (hb : b ≤ 999999999) (ht : 0 ≤ t ∧ t ≤ 4) : ∀ (c m f : Nat) (H : zHt), zmf H0 H → H 81 0 = 0 → H 82 9 = law → (m : Int) + c = b + 1 → 1 ≤ m → f + c ≤ 3000 → A = (0, ((f + zcn (zPctd law t) c m : Nat) : Int)) → zgo w (d + 6) 251 43 [zR 81, zJ, zI b, zI t, zI f, zI m, zJ] [] H (zQI (zPM H0 A)) := by
  intro c
  induction c with
  | zero =>
    intro m f H hF hs el hm m1 hf hA
    exact x251_43 ⟨fun _ => zPM_0 hF hs hA, fun q => by omega⟩
  | succ c ih =>
    intro m f H hF hs el hm m1 hf hA
    have no : zctd law t m = 0 → ∀ H2, zmf H0 H2 → H2 81 0 = 0 → H2 82 9 = law → zgo w (d + 6) 251 43 [zR 81, zJ, zI b, zI t, zI f, zI ((m + 1 : Nat) : Int), zJ] [] H2 (zQI (zPM H0 A)) := fun z H2 z1 z2 z3 => by
      rw [zcn_f (decide_eq_false (fun y => y z))] at hA
      exact ih (m + 1) f H2 z1 z2 z3 (by omega) (by omega) (by omega) hA
    have yes : ¬ zctd law t m = 0 → ∀ H2, zmf H0 H2 → H2 81 0 = 0 → H2 82 9 = law → zgo w (d + 6) 251 43 [zR 81, zJ, zI b, zI t, zI ((f + 1 : Nat) : Int), zI ((m + 1 : Nat) : Int), zJ] [] H2 (zQI (zPM H0 A)) := fun z H2 z1 z2 z3 => by
      rw [zcn_t (decide_eq_true z)] at hA
      exact ih (m + 1) (f + 1) H2 z1 z2 z3 (by omega) (by omega) (by omega) (by rw [hA, show f + 1 + zcn (zPctd law t) c (m + 1) = f + (zcn (zPctd law t) c (m + 1) + 1) by omega])
    refine x251_43 ⟨fun q => by omega, fun _ => ?_⟩
    rw [zi1 (by omega), zi1 (by omega), el, show w32 ((f : Int) + 0) = (f : Int) by rw [w32_id (by omega)]; omega, ztm2]
    refine ⟨fun t3 => ⟨fun t4 => ⟨fun q => ?_, fun q => ?_⟩, fun t4 => ?_⟩, fun t3 => ?_⟩
    · refine no ?_ H hF hs el
      unfold zctd; rw [if_neg t4, if_pos (by omega)]; exact if_pos (by omega)
    · obtain ⟨H1, g, e⟩ := c191 (w := w) (d := d + 2) (H := H) (n := m) (by omega) (by omega) (by omega)
      have z1 := zmf_fg hF g
      have z2 : H1 81 0 = 0 := (g 81 0 (by decide) (by decide) (by decide)).trans hs
      have z3 : H1 82 9 = law := (g 82 9 (by decide) (by decide) (by decide)).trans el
      have ez : zctd law t m = zdrv m := by unfold zctd; rw [if_neg t4, if_pos (by omega)]
      rw [e, ← ez]
      exact ⟨fun q2 => no q2 H1 z1 z2 z3, fun q2 => yes q2 H1 z1 z2 z3⟩
    · obtain ⟨H1, g, e⟩ := c220 (w := w) (d := d + 4) (H := H) (n := m) (by omega)
      have z1 := zmf_fm hF g
      have z2 : H1 81 0 = 0 := (g 81 0 (by decide) (by decide) (by decide)).trans hs
      have z3 : H1 82 9 = law := (g 82 9 (by decide) (by decide) (by decide)).trans el
      have ez : zctd law t m = zisp m := by unfold zctd; rw [if_pos t4]
      rw [e, ← ez]
      exact ⟨fun q2 => no q2 H1 z1 z2 z3, fun q2 => yes q2 H1 z1 z2 z3⟩
    · obtain ⟨H1, g, e⟩ := c186 (w := w) (d := d + 2) (H := H) (n := m) (law := law) (by omega) (by omega)
      have z1 := zmf_fm hF g
      have z2 : H1 81 0 = 0 := (g 81 0 (by decide) (by decide) (by decide)).trans hs
      have z3 : H1 82 9 = law := (g 82 9 (by decide) (by decide) (by decide)).trans el
      have ez : zctd law t m = if zkind2 law m = t then 1 else 0 := by unfold zctd; rw [if_neg (by omega), if_neg (by omega)]
      rw [e]
      exact ⟨fun q2 => no (by rw [ez, if_neg q2]) H1 z1 z2 z3, fun q2 => yes (by rw [ez, if_pos q2]; decide) H1 z1 z2 z3⟩
theorem b251 {a b t : Int} (hD : zDk H) : zclI w (d + 6) 251 [zR 81, zI a, zI b, zI t] H (zPM H (zActs (H 40 4) a b t)) := by
  unfold zActs
  by_cases hg : ((1 ≤ a ∧ a ≤ 999999999) ∧ (1 ≤ b ∧ b ≤ 999999999) ∧ a ≤ b ∧ b - a ≤ 500) ∧ 0 ≤ t ∧ t ≤ 4
  · rw [if_pos hg]
    obtain ⟨m, rfl⟩ : ∃ m : Nat, a = m := ⟨a.toNat, by omega⟩
    refine x251_0 ?_
    simp only [c176, c173, c201, c174_0, c174_1, c174_2, c174_3, c174_4, c174_5, zit0, z10a, z10b, Classical.not_not, not_true_eq_false, false_implies, true_implies, true_and, and_true]
    repeat' (first | omega | intro _ | with_reducible refine And.intro ?_ ?_)
    exact b251l (by omega) (by omega) (b + 1 - m).toNat m 0 (zst H 0) (zst_f zmf_rfl) rfl ((zst_at (by decide)).trans hD.2.1) (by omega) (by omega) (by omega) (by rw [Nat.zero_add, Int.toNat_natCast])
  · have eA : (1, -1) = ((1 : Int), (-1 : Int)) := rfl
    rw [if_neg hg]
    refine x251_0 ?_
    simp only [c176, c173, c201, c174_0, c174_1, c174_2, c174_3, c174_4, c174_5, zit0, z10a, z10b, Classical.not_not, not_true_eq_false, false_implies, true_implies, true_and, and_true]
    repeat' (first | exact zPM_n zmf_rfl eA | omega | intro _ | with_reducible refine And.intro ?_ ?_)
-- euler
theorem b151e {H0 H1 : zHt} {k m t : Int} (hF : zcf H0 H1) (hg : 0 ≤ t ∧ t ≤ 5) (hh : ¬ (3 < t ∧ zeh k m = 0)) : zgo w (d + 5) 151 134 [zR 32, zI k, zJ, zI t, zJ, zI (zep k m), zI (zeq k m), zI (zer k m), zI (zeh k m)] [] H1 (zQL (zPC H0 (0, if t = 0 then zeh k m else if t = 1 then zep k m else if t = 2 then zeq k m else if t = 3 then zer k m else if t = 4 then w64 (zshlL (zep k m) k * zeq k m) else zshlL (zer k m) k))) := by
  refine x151_134 ⟨fun q => ?_, fun q => ⟨fun q2 => ?_, fun q2 => ?_⟩, fun q => ?_, fun q => ?_, fun q => ?_, fun q => ?_⟩
  · exact zPC_dL hF (by rw [if_neg (by omega), if_neg (by omega), if_neg (by omega), if_neg (by omega), if_neg (by omega)])
  · exact zPC_d hF (by rw [if_pos q, q2])
  · have : zeh k m = 1 := by
      unfold zeh at q2 ⊢
      split <;> try split <;> try split
      all_goals first | rfl | (exfalso; apply q2; simp_all)
    exact zPC_d hF (by rw [if_pos q, this])
  · exact zPC_d hF (by rw [if_neg (by omega), if_pos q])
  · exact zPC_d hF (by rw [if_neg (by omega), if_neg (by omega), if_pos q])
  · exact zPC_d hF (by rw [if_neg (by omega), if_neg (by omega), if_neg (by omega), if_pos q])
  · exact zPC_dL hF (by rw [if_neg (by omega), if_neg (by omega), if_neg (by omega), if_neg (by omega), if_pos q])
theorem b151 {k m t : Int} (hMR : zMR) : zclL w (d + 5) 151 [zR 32, zI k, zI m, zI t] H (zPC H (zAel k m t)) := by
  unfold zAel
  by_cases hg : (2 ≤ k ∧ k ≤ 9) ∧ (1 ≤ m ∧ m < k) ∧ 0 ≤ t ∧ t ≤ 5
  · rw [if_pos hg]
    obtain ⟨⟨p1, p2⟩, ⟨q1, q2⟩, ⟨r1, r2⟩, -⟩ := zel_all hg.1 hg.2.1
    obtain ⟨H1, g1, e1⟩ := c103 (w := w) (d := d + 1) (H := H) (n := (zep k m).toNat) hMR (by omega) (by omega)
    obtain ⟨H2, g2, e2⟩ := c103 (w := w) (d := d + 1) (H := H1) (n := (zeq k m).toNat) hMR (by omega) (by omega)
    obtain ⟨H3, g3, e3⟩ := c103 (w := w) (d := d + 1) (H := H2) (n := (zer k m).toNat) hMR (by omega) (by omega)
    rw [← zio p1] at e1
    rw [← zio q1] at e2
    rw [← zio r1] at e3
    have f1 := zcf_fc (zcf_rfl (H := H)) g1
    have f2 := zcf_fc f1 g2
    have f3 := zcf_fc f2 g3
    have F : ∀ H', zcf H H' → (∀ x, x = zeh k m → (t ≤ 3 → zgo w (d + 5) 151 134 [zR 32, zI k, zJ, zI t, zJ, zI (zep k m), zI (zeq k m), zI (zer k m), zI x] [] H' (zQL (zPC H (if 3 < t ∧ zeh k m = 0 then (5, -1) else (0, if t = 0 then zeh k m else if t = 1 then zep k m else if t = 2 then zeq k m else if t = 3 then zer k m else if t = 4 then w64 (zshlL (zep k m) k * zeq k m) else zshlL (zer k m) k))))) ∧ (3 < t → x ≠ 0 → zgo w (d + 5) 151 134 [zR 32, zI k, zJ, zI t, zJ, zI (zep k m), zI (zeq k m), zI (zer k m), zI x] [] H' (zQL (zPC H (if 3 < t ∧ zeh k m = 0 then (5, -1) else (0, if t = 0 then zeh k m else if t = 1 then zep k m else if t = 2 then zeq k m else if t = 3 then zer k m else if t = 4 then w64 (zshlL (zep k m) k * zeq k m) else zshlL (zer k m) k))))) ∧ (3 < t → x = 0 → zclI w (d + 4) 13 [zR 32, zI 5] H' (fun x H2 => zPC H (if 3 < t ∧ zeh k m = 0 then (5, -1) else (0, if t = 0 then zeh k m else if t = 1 then zep k m else if t = 2 then zeq k m else if t = 3 then zer k m else if t = 4 then w64 (zshlL (zep k m) k * zeq k m) else zshlL (zer k m) k)) x H2))) := fun H' hF x hx => by
      subst hx
      refine ⟨fun q => ?_, fun q q2 => ?_, fun q q2 => zPC_r hF (by rw [if_pos ⟨q, q2⟩])⟩
      · rw [if_neg (by omega)]; exact b151e hF hg.2.2 (by omega)
      · rw [if_neg (by omega)]; exact b151e hF hg.2.2 (by omega)
    refine x151_0 ?_
    simp only [c43, c44, c81, zit0, Classical.not_not]
    refine ⟨fun q => by omega, fun _ => ⟨fun q => by omega, fun _ => ⟨fun q => by omega, fun _ => ⟨fun q => by omega, fun _ => ⟨fun _ v hv => ?_, fun q => by omega⟩⟩⟩⟩⟩
    have hv : v = zer k m := hv
    subst hv
    rw [show w32 (zshl (w32 (zshl 1 (w32 (k - m)) + 1)) m - 1) = zep k m from rfl, show w32 (zshl (w32 (zshl 1 (w32 (k - m)) + 1)) k - 1) = zeq k m from rfl, e1]
    refine ⟨fun z => ?_, fun z => ?_⟩
    · have hx : (0 : Int) = zeh k m := by unfold zeh; rw [if_pos z]
      exact ⟨(F H1 f1 0 hx).1, fun q => (F H1 f1 0 hx).2.2 q rfl⟩
    rw [e2]
    refine ⟨fun z2 => ?_, fun z2 => ?_⟩
    · have hx : (0 : Int) = zeh k m := by unfold zeh; rw [if_neg z, if_pos z2]
      exact ⟨(F H2 f2 0 hx).1, fun q => (F H2 f2 0 hx).2.2 q rfl⟩
    rw [e3]
    refine ⟨fun z3 => ?_, fun z3 => ?_⟩
    · have hx : (0 : Int) = zeh k m := by unfold zeh; rw [if_neg z, if_neg z2, if_pos z3]
      exact ⟨(F H3 f3 0 hx).1, fun q => (F H3 f3 0 hx).2.2 q rfl⟩
    · have hx : (1 : Int) = zeh k m := by unfold zeh; rw [if_neg z, if_neg z2, if_neg z3]
      exact ⟨(F H3 f3 1 hx).1, fun q => (F H3 f3 1 hx).2.1 q (by decide)⟩
  · have eA : (1, -1) = ((1 : Int), (-1 : Int)) := rfl
    rw [if_neg hg]
    refine x151_0 ?_
    simp only [c43, c44, c81, zit0, Classical.not_not]
    repeat' (first | exact zPC_r zcf_rfl eA | omega | intro _ | with_reducible refine And.intro ?_ ?_)
theorem b260e {H0 H1 : zHt} {k m t : Int} (hF : zmf H0 H1) (hs : H1 81 0 = 0) (hk : 2 ≤ k ∧ k ≤ 9) (hm : 1 ≤ m ∧ m < k) (hg : 0 ≤ t ∧ t ≤ 5) : zgo w (d + 5) 260 131 [zR 81, zI k, zJ, zI t, zJ, zI (zep k m), zI (zeq k m), zI (zer k m), zJ] [zI (zeh k m)] H1 (zQL (zPM H0 (if 3 < t ∧ zeh k m = 0 then (5, -1) else (0, if t = 0 then zeh k m else if t = 1 then zep k m else if t = 2 then zeq k m else if t = 3 then zer k m else if t = 4 then w64 (zshlL (zep k m) k * zeq k m) else zshlL (zer k m) k)))) := by
  obtain ⟨-, -, -, -, -, -, l4, l5⟩ := zel_all hk hm
  have h01 : ¬ zeh k m = 0 → zeh k m = 1 := fun q2 => by
    unfold zeh at q2 ⊢
    split <;> try split <;> try split
    all_goals first | rfl | (exfalso; apply q2; simp_all)
  refine x260_131 ⟨fun q => ⟨fun q2 => ?_, fun q2 => ?_⟩, fun q => ⟨fun q2 => ?_, fun q2 => ?_⟩, fun q => ?_, fun q => ?_, fun q => ?_, fun q => ⟨fun q2 => ?_, fun q2 => ?_⟩⟩
  · exact zPM_r hF (by rw [if_pos ⟨by omega, q2⟩])
  · exact zPM_0 hF hs (by rw [if_neg (by omega), if_neg (by omega), if_neg (by omega), if_neg (by omega), if_neg (by omega), if_neg (by omega), l5])
  · exact zPM_0 hF hs (by rw [if_neg (by omega), if_pos q, q2])
  · exact zPM_0 hF hs (by rw [if_neg (by omega), if_pos q, h01 q2])
  · exact zPM_0 hF hs (by rw [if_neg (by omega), if_neg (by omega), if_pos q])
  · exact zPM_0 hF hs (by rw [if_neg (by omega), if_neg (by omega), if_neg (by omega), if_pos q])
  · exact zPM_0 hF hs (by rw [if_neg (by omega), if_neg (by omega), if_neg (by omega), if_neg (by omega), if_pos q])
  · exact zPM_r hF (by rw [if_pos ⟨by omega, q2⟩])
  · exact zPM_0 hF hs (by rw [if_neg (by omega), if_neg (by omega), if_neg (by omega), if_neg (by omega), if_neg (by omega), if_pos q, l4])
theorem b260 {k m t : Int} : zclL w (d + 5) 260 [zR 81, zI k, zI m, zI t] H (zPM H (zAel k m t)) := by
  unfold zAel
  by_cases hg : (2 ≤ k ∧ k ≤ 9) ∧ (1 ≤ m ∧ m < k) ∧ 0 ≤ t ∧ t ≤ 5
  · rw [if_pos hg]
    have hL := zel_all hg.1 hg.2.1
    obtain ⟨⟨p1, p2⟩, ⟨q1, q2⟩, ⟨r1, r2⟩, x1, x2, x3, -, -⟩ := hL
    obtain ⟨H1, g1, e1⟩ := c220 (w := w) (d := d + 3) (H := zst H 0) (n := (zep k m).toNat) (by omega)
    obtain ⟨H2, g2, e2⟩ := c220 (w := w) (d := d + 3) (H := H1) (n := (zeq k m).toNat) (by omega)
    obtain ⟨H3, g3, e3⟩ := c220 (w := w) (d := d + 3) (H := H2) (n := (zer k m).toNat) (by omega)
    rw [← zio p1] at e1
    rw [← zio q1] at e2
    rw [← zio r1] at e3
    have f1 := zmf_fm (zst_f (H := H) (s := 0) zmf_rfl) g1
    have f2 := zmf_fm f1 g2
    have f3 := zmf_fm f2 g3
    have s1 : H1 81 0 = 0 := (g1 81 0 (by decide) (by decide) (by decide)).trans rfl
    have s2 : H2 81 0 = 0 := (g2 81 0 (by decide) (by decide) (by decide)).trans s1
    have s3 : H3 81 0 = 0 := (g3 81 0 (by decide) (by decide) (by decide)).trans s2
    have ew : w32 (k - 1) = k - 1 := w32_id (by omega)
    refine x260_0 ?_
    rw [ew]
    simp only [c176, c173, c201, c174_0, c174_1, c174_2, c174_3, c174_4, c174_5, zit0, z10a, z10b, Classical.not_not, not_true_eq_false, false_implies, true_implies, true_and, and_true]
    repeat' (first | omega | intro _ | with_reducible refine And.intro ?_ ?_)
    refine x260_45 ?_
    simp only [c176, c173, c201, c174_0, c174_1, c174_2, c174_3, c174_4, c174_5, zit0, z10a, z10b, Classical.not_not, not_true_eq_false, false_implies, true_implies, true_and, and_true]
    intro v hv
    have hv : w32 (v - 1) = zer k m := by rw [hv]; exact x3
    rw [hv, show w32 (w32 (zshl 1 m * w32 (zshl 1 (w32 (k - m)) + 1)) - 1) = zep k m from x1, show w32 (w32 (zshl 1 k * w32 (zshl 1 (w32 (k - m)) + 1)) - 1) = zeq k m from x2, e1]
    refine ⟨fun z => ?_, fun z => ?_⟩
    · have hx : zeh k m = 0 := by unfold zeh; rw [if_pos z]
      have := b260e (w := w) (d := d) f1 s1 hg.1 hg.2.1 hg.2.2
      rw [hx] at this ⊢; exact this
    rw [e2]
    refine ⟨fun z2 => ?_, fun z2 => ?_⟩
    · have hx : zeh k m = 0 := by unfold zeh; rw [if_neg z, if_pos z2]
      have := b260e (w := w) (d := d) f2 s2 hg.1 hg.2.1 hg.2.2
      rw [hx] at this ⊢; exact this
    rw [e3]
    refine ⟨fun z3 => ?_, fun z3 => ?_⟩
    · have hx : zeh k m = 0 := by unfold zeh; rw [if_neg z, if_neg z2, if_pos z3]
      have := b260e (w := w) (d := d) f3 s3 hg.1 hg.2.1 hg.2.2
      rw [hx] at this ⊢; exact this
    · have hx : zeh k m = 1 := by unfold zeh; rw [if_neg z, if_neg z2, if_neg z3]
      have := b260e (w := w) (d := d) f3 s3 hg.1 hg.2.1 hg.2.2
      rw [hx] at this ⊢; exact this
  · have eA : (1, -1) = ((1 : Int), (-1 : Int)) := rfl
    rw [if_neg hg]
    have L : zgo w (d + 5) 260 45 [zR 81, zI k, zI m, zI t, zJ, zJ, zJ, zJ, zJ] [zI 1, zR 81] H (zQL (zPM H (1, -1))) := by
      refine x260_45 ?_
      simp only [c176, c173, c201, c174_0, c174_1, c174_2, c174_3, c174_4, c174_5, zit0, z10a, z10b, Classical.not_not, not_true_eq_false, false_implies, true_implies, true_and, and_true]
      exact zPM_n zmf_rfl eA
    refine x260_0 ?_
    simp only [c176, c173, c201, c174_0, c174_1, c174_2, c174_3, c174_4, c174_5, zit0, z10a, z10b, Classical.not_not, not_true_eq_false, false_implies, true_implies, true_and, and_true]
    by_cases hk : 2 ≤ k ∧ k ≤ 9
    · rw [show w32 (k - 1) = k - 1 from w32_id (by omega)]
      repeat' (first | exact L | omega | intro _ | with_reducible refine And.intro ?_ ?_)
    · exact ⟨fun _ => L, fun q => absurd q hk⟩
end Z45
theorem l1091 {w : zWt} (hw : w.1 ≤ 3072) (hMR : zMR) : zLaw w (zKept zAllR) 1091 := fun H i hi hR K nx => x0_1091 (d := 1999) (by
  refine ⟨zidx hw hi (by decide) (by decide), zidx hw hi (by decide) (by decide), ?_⟩
  have r1 : r32 (zH0 w.2 0 (w32 ((i : Int) + 1))) := zv_r
  generalize zH0 w.2 0 (w32 ((i : Int) + 1)) = v1 at r1 ⊢
  have r2 : r32 (zH0 w.2 0 (w32 ((i : Int) + 2))) := zv_r
  generalize zH0 w.2 0 (w32 ((i : Int) + 2)) = v2 at r2 ⊢
  exact zcaseI (A := fun H => zAeuc v1 v2) (fun H H1 h => by simp only [h 40 4 rfl, h 40 1 rfl, h 40 2 rfl, h 40 3 rfl]) hR (fun hD hW => b102 (d := 1994) hMR) (fun H1 hD => b219 (d := 1994)) (fun x y H' hk e => nx H' hk))
theorem l1663 {w : zWt} (hw : w.1 ≤ 3072) (hMR : zMR) : zLaw w (zKept zAllR) 1663 := fun H i hi hR K nx => x0_1663 (d := 1999) (by
  refine ⟨zidx hw hi (by decide) (by decide), zidx hw hi (by decide) (by decide), zidx hw hi (by decide) (by decide), ?_⟩
  have r1 : r32 (zH0 w.2 0 (w32 ((i : Int) + 1))) := zv_r
  generalize zH0 w.2 0 (w32 ((i : Int) + 1)) = v1 at r1 ⊢
  have r2 : r32 (zH0 w.2 0 (w32 ((i : Int) + 2))) := zv_r
  generalize zH0 w.2 0 (w32 ((i : Int) + 2)) = v2 at r2 ⊢
  have r3 : r32 (zH0 w.2 0 (w32 ((i : Int) + 3))) := zv_r
  generalize zH0 w.2 0 (w32 ((i : Int) + 3)) = v3 at r3 ⊢
  exact zcaseI (A := fun H => zActs (H 40 4) v1 v2 v3) (fun H H1 h => by simp only [h 40 4 rfl, h 40 1 rfl, h 40 2 rfl, h 40 3 rfl]) hR (fun hD hW => b139 (d := 1993) hMR hD) (fun H1 hD => b251 (d := 1993) hD) (fun x y H' hk e => nx H' hk))
theorem l1974 {w : zWt} (hw : w.1 ≤ 3072) (hMR : zMR) : zLaw w (zKept zAllR) 1974 := fun H i hi hR K nx => x0_1974 (d := 1999) (by
  refine ⟨zidx hw hi (by decide) (by decide), zidx hw hi (by decide) (by decide), zidx hw hi (by decide) (by decide), ?_⟩
  have r1 : r32 (zH0 w.2 0 (w32 ((i : Int) + 1))) := zv_r
  generalize zH0 w.2 0 (w32 ((i : Int) + 1)) = v1 at r1 ⊢
  have r2 : r32 (zH0 w.2 0 (w32 ((i : Int) + 2))) := zv_r
  generalize zH0 w.2 0 (w32 ((i : Int) + 2)) = v2 at r2 ⊢
  have r3 : r32 (zH0 w.2 0 (w32 ((i : Int) + 3))) := zv_r
  generalize zH0 w.2 0 (w32 ((i : Int) + 3)) = v3 at r3 ⊢
  exact zcaseL (A := fun H => zAel v1 v2 v3) (fun H H1 h => by simp only [h 40 4 rfl, h 40 1 rfl, h 40 2 rfl, h 40 3 rfl]) hR (fun hD hW => b151 (d := 1994) hMR) (fun H1 hD => b260 (d := 1994)) (fun x y H' hk e => nx H' hk))
