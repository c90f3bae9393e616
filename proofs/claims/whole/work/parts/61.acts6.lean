/-! the case rule -/
def zrmx (p : Int) : Int := if p = 0 then 999999999 else if p = 1 then 100 else 3
def zrmn (p : Int) : Int := if p = 2 then 0 else 1
section Z61
variable {w : zWt} {d : Nat} {H : zHt}
theorem zp3 {p : Int} (h : 0 ≤ p ∧ p ≤ 2) : p = 0 ∨ p = 1 ∨ p = 2 := by omega
theorem c162 {p v : Int} {K : Int → zHt → Prop} (hp : 0 ≤ p ∧ p ≤ 2) : zclI w (d + 1) 162 [zI p, zI v] H K = K (if zrmn p ≤ v ∧ v ≤ zrmx p then 1 else 0) H := zclI_eq fun K h => x162_0 (by
  rcases zp3 hp with rfl | rfl | rfl
  · refine ⟨fun q => absurd rfl q, fun _ => ?_⟩
    rw [c43]; refine ⟨?_, h⟩
    split
    · exact Or.inr rfl
    · exact Or.inl rfl
  · refine ⟨fun _ => ⟨fun q => absurd rfl q, fun _ => ⟨fun q => ?_, fun q => ⟨fun q2 => ?_, fun q2 => ?_⟩⟩⟩, fun q => absurd q (by decide)⟩
    · rwa [if_neg (fun z : zrmn 1 ≤ v ∧ v ≤ zrmx 1 => by have z1 : 1 ≤ v := z.1; omega)] at h
    · rwa [if_neg (fun z : zrmn 1 ≤ v ∧ v ≤ zrmx 1 => by have z1 : v ≤ 100 := z.2; omega)] at h
    · rwa [if_pos (show zrmn 1 ≤ v ∧ v ≤ zrmx 1 from ⟨q, q2⟩)] at h
  · refine ⟨fun _ => ⟨fun _ => ?_, fun q => absurd q (by decide)⟩, fun q => absurd q (by decide)⟩
    rw [c44]; refine ⟨?_, h⟩
    split
    · exact Or.inr rfl
    · exact Or.inl rfl)
theorem c268 {p : Int} {K : Int → zHt → Prop} : zclI w d 268 [zI p] H K = K (zrmx p) H := zclI_eq fun K h => x268_0 (by
  unfold zrmx at h
  refine ⟨fun q => ?_, fun q => ?_⟩
  · rw [if_neg q] at h
    exact ⟨fun q2 => by rwa [if_neg q2] at h, fun q2 => by rwa [if_pos q2] at h⟩
  · rwa [if_pos q] at h)
def zrset (p v : Int) (D : List Int × Int × Int × Int) : List Int × Int × Int × Int := if p = 0 then (D.1, v, D.2.2) else if p = 1 then (D.1, D.2.1, v, D.2.2.2) else (D.1, D.2.1, D.2.2.1, v)
def zrget (p : Int) (D : List Int × Int × Int × Int) : Int := if p = 0 then D.2.1 else if p = 1 then D.2.2.1 else D.2.2.2
theorem zr_ok {p v : Int} {D : List Int × Int × Int × Int} (h : zOkD D) (hp : 0 ≤ p ∧ p ≤ 2) (hk : zrmn p ≤ v ∧ v ≤ zrmx p) : zOkD (zrset p v D) := by
  obtain ⟨v1, v2, v3, v4, v5⟩ := h
  rcases zp3 hp with rfl | rfl | rfl
  · exact ⟨v1, v2, hk, v4, v5⟩
  · exact ⟨v1, v2, v3, hk, v5⟩
  · exact ⟨v1, v2, v3, v4, hk⟩
theorem zr_gC {p : Int} {D : List Int × Int × Int × Int} (hp : 0 ≤ p ∧ p ≤ 2) (h : zDeC H 40 D) : H 40 (p + 2) = zrget p D := by
  obtain ⟨c1, c2, c3, c4, c5⟩ := h
  rcases zp3 hp with rfl | rfl | rfl
  · exact c2
  · exact c3
  · exact c4
theorem zr_gM {p : Int} {D : List Int × Int × Int × Int} (hp : 0 ≤ p ∧ p ≤ 2) (h : zDeM H 82 0 D) : H 82 (7 + p) = zrget p D := by
  unfold zDeM at h
  simp only [Int.zero_add] at h
  obtain ⟨c1, c2, c3, c4, c5⟩ := h
  rcases zp3 hp with rfl | rfl | rfl
  · exact c2
  · exact c3
  · exact c4
theorem zr_len {p v : Int} {D : List Int × Int × Int × Int} : (zrset p v D).1 = D.1 := by
  unfold zrset
  split
  · rfl
  · split
    · rfl
    · rfl
theorem zr_sC {p v : Int} {D : List Int × Int × Int × Int} (hp : 0 ≤ p ∧ p ≤ 2) (h6 : D.1.length ≤ 6) (h : zDeC H 40 D) : zDeC (zup H 40 (p + 2) v) 40 (zrset p v D) := by
  obtain ⟨c1, c2, c3, c4, c5⟩ := h
  have c5' : zArr (zup H 40 (p + 2) v) 41 (zrset p v D).1 := by
    rw [zr_len]; exact zArr_eq (fun k _ => by rw [zq_ne (by omega)]) c5
  have c1' : zup H 40 (p + 2) v 40 1 = (zrset p v D).1.length := by rw [zr_len, zq_ne (by omega)]; exact c1
  rcases zp3 hp with rfl | rfl | rfl
  · exact ⟨c1', zq_eq, by rw [zq_ne (by omega)]; exact c3, by rw [zq_ne (by omega)]; exact c4, c5'⟩
  · exact ⟨c1', by rw [zq_ne (by omega)]; exact c2, zq_eq, by rw [zq_ne (by omega)]; exact c4, c5'⟩
  · exact ⟨c1', by rw [zq_ne (by omega)]; exact c2, by rw [zq_ne (by omega)]; exact c3, zq_eq, c5'⟩
theorem zr_sM {p v : Int} {D : List Int × Int × Int × Int} (hp : 0 ≤ p ∧ p ≤ 2) (h6 : D.1.length ≤ 6) (h : zDeM H 82 0 D) : zDeM (zup H 82 (7 + p) v) 82 0 (zrset p v D) := by
  unfold zDeM at h ⊢
  simp only [Int.zero_add] at h ⊢
  rw [zr_len]
  obtain ⟨c1, c2, c3, c4, c5⟩ := h
  have c1' : zup H 82 (7 + p) v 82 6 = D.1.length := by rw [zq_ne (by omega)]; exact c1
  have c5' : ∀ k : Nat, k < D.1.length → zup H 82 (7 + p) v 82 k = D.1.getD k 0 := fun k hk => by rw [zq_ne (by omega)]; exact c5 k hk
  rcases zp3 hp with rfl | rfl | rfl
  · exact ⟨c1', zq_eq, by rw [zq_ne (by omega)]; exact c3, by rw [zq_ne (by omega)]; exact c4, c5'⟩
  · exact ⟨c1', by rw [zq_ne (by omega)]; exact c2, zq_eq, by rw [zq_ne (by omega)]; exact c4, c5'⟩
  · exact ⟨c1', by rw [zq_ne (by omega)]; exact c2, by rw [zq_ne (by omega)]; exact c3, zq_eq, c5'⟩
/-- the class: the old value read, then the branch of 58 -/
theorem z161 {p v : Int} {Q : zV → zHt → Prop} {D : List Int × Int × Int × Int} (hp : 0 ≤ p ∧ p ≤ 2) (hd : zDeC H 40 D) (g : zgo w (d + 1) 161 58 [zR 32, zI p, zI v, zJ] [zI (zrget p D)] H Q) : (¬ p = 0 → (¬ p = 1 → zgo w (d + 1) 161 58 [zR 32, zI p, zI v, zJ] [zI (H 40 4)] H Q) ∧ (p = 1 → zgo w (d + 1) 161 58 [zR 32, zI p, zI v, zJ] [zI (H 40 3)] H Q)) ∧ (p = 0 → zgo w (d + 1) 161 58 [zR 32, zI p, zI v, zJ] [zI (H 40 2)] H Q) := by
  have e := zr_gC hp hd
  rcases zp3 hp with rfl | rfl | rfl
  · refine ⟨fun q => absurd rfl q, fun _ => ?_⟩
    rw [show H 40 2 = _ from e]; exact g
  · refine ⟨fun _ => ⟨fun q => absurd rfl q, fun _ => ?_⟩, fun q => absurd q (by decide)⟩
    rw [show H 40 3 = _ from e]; exact g
  · refine ⟨fun _ => ⟨fun _ => ?_, fun q => absurd q (by decide)⟩, fun q => absurd q (by decide)⟩
    rw [show H 40 4 = _ from e]; exact g
-- rule
theorem l2153 (hw : w.1 ≤ 3072) : zLaw w (zKept zAllR) 2153 := fun H i hi hR K nx => x0_2153 (d := 1999) (by
  refine ⟨zidx hw hi (by decide) (by decide), zidx hw hi (by decide) (by decide), ?_⟩
  generalize zH0 w.2 0 (w32 ((i : Int) + 1)) = p
  generalize zH0 w.2 0 (w32 ((i : Int) + 2)) = v
  refine zcaseA hR (fun D L hv s m => ?_) (fun x y H' hk e => nx H' hk)
  have h8 := s.2.2.1
  have h6 := hv.1.1
  have hW := hR.2.2.2.2.2.2
  by_cases hp : 0 ≤ p ∧ p ≤ 2
  · by_cases hk : zrmn p ≤ v ∧ v ≤ zrmx p
    · by_cases he : zrget p D = v
      · refine ⟨(4, -1), D, L, hv, zrefC hW s (x161_0 (d := 1998) ?_), fun H1 c1 m1 => zrefM m1 (x267_0 (d := 1998) ?_)⟩
        · rw [c44, if_pos hp]
          refine ⟨fun q => absurd q (by decide), fun _ => ?_⟩
          rw [c162 hp, if_pos hk]
          refine ⟨fun _ => z161 hp s.1 ?_, fun q => absurd q (by decide)⟩
          exact x161_58 (d := 1998) ⟨fun q => absurd he q, fun _ => zPC_r zcf_rfl rfl⟩
        · rw [c173, if_pos hp]
          have g : zgo w (1998 + 1) 267 40 [zR 81, zI p, zI v, zJ, zJ] [zI 1] H1 (zQI (zPM H1 (4, -1))) := x267_40 (d := 1998) ⟨fun _ => (by
            rw [w32_id (show _ ≤ 7 + p ∧ _ by omega)]
            refine ⟨by omega, fun q => absurd ((zr_gM hp m1.1).trans he) q, fun _ => ?_⟩
            rw [c174_4]; exact ⟨fun q => absurd rfl q, fun _ => zPM_n zmf_rfl rfl⟩), fun q => absurd q (by decide)⟩
          refine ⟨fun q => absurd q (by decide), fun _ => ⟨fun q => ?_, fun q => ?_⟩⟩
          · rw [c268, c173, if_pos (show 1 ≤ v ∧ v ≤ zrmx p by unfold zrmn at hk; rw [if_neg q] at hk; exact hk)]
            exact ⟨fun q => absurd q (by decide), fun _ => g⟩
          · rw [c268, c173, if_pos (show 0 ≤ v ∧ v ≤ zrmx p by unfold zrmn at hk; rw [if_pos q] at hk; exact hk)]
            exact ⟨fun q => absurd q (by decide), fun _ => g⟩
      · refine ⟨(0, zrget p D), zrset p v D, zkpt D L, zkpt_ok hv (zr_ok hv.1 hp hk), x161_0 (d := 1998) ?_, fun H1 c1 m1 => x267_0 (d := 1998) ?_⟩
        · obtain ⟨H1, ⟨s1, f1⟩, e1⟩ := c153 (w := w) (d := 1997) hv s
          obtain ⟨H3, f3, e3, -, fin⟩ := zact_d (w := w) (d := 1998) (H2 := zup H1 40 (p + 2) v) s1 f1 (fun a j h1 h2 => by rw [zq_ne (by omega)]) (zr_sC hp h6 s1.1)
          rw [c44, if_pos hp]
          refine ⟨fun q => absurd q (by decide), fun _ => ?_⟩
          rw [c162 hp, if_pos hk]
          refine ⟨fun _ => z161 hp s.1 (x161_58 (d := 1998) ⟨fun _ => ?_, fun q => absurd q he⟩), fun q => absurd q (by decide)⟩
          rw [e1]
          have z := fin (zrget p D)
          rcases zp3 hp with rfl | rfl | rfl
          · refine ⟨fun q => absurd rfl q, fun _ => ?_⟩
            rw [show zup H1 40 2 v = zup H1 40 (0 + 2) v from rfl, e3, c39]; exact z
          · refine ⟨fun _ => ⟨fun q => absurd rfl q, fun _ => ?_⟩, fun q => absurd q (by decide)⟩
            rw [show zup H1 40 3 v = zup H1 40 (1 + 2) v from rfl, e3, c39]; exact z
          · refine ⟨fun _ => ⟨fun _ => ?_, fun q => absurd q (by decide)⟩, fun q => absurd q (by decide)⟩
            rw [show zup H1 40 4 v = zup H1 40 (2 + 2) v from rfl, e3, c39]; exact z
        · rw [c173, if_pos hp]
          obtain ⟨H2, ⟨m2, f2, t2⟩, e2⟩ := c262s (w := w) (d := 1998) hv h8 m1
          have g : zgo w (1998 + 1) 267 40 [zR 81, zI p, zI v, zJ, zJ] [zI 1] H1 (zQI (zQM H1 (0, zrget p D) (zrset p v D) (zkpt D L))) := x267_40 (d := 1998) ⟨fun _ => (by
            rw [w32_id (show _ ≤ 7 + p ∧ _ by omega)]
            refine ⟨by omega, fun _ => ?_, fun q => absurd ((zr_gM hp m1.1).symm.trans q) he⟩
            rw [c174_0]
            refine ⟨fun _ => ?_, fun q => absurd q (by decide)⟩
            rw [e2, zr_gM hp m2.1]
            exact ⟨rfl, by rw [zq_ne (by omega)]; exact t2, zmA_82 f2, zMS_82 m2 (fun a j h => by rw [zq_ne (by omega)]) (zr_sM hp h6 m2.1)⟩), fun q => absurd q (by decide)⟩
          refine ⟨fun q => absurd q (by decide), fun _ => ⟨fun q => ?_, fun q => ?_⟩⟩
          · rw [c268, c173, if_pos (show 1 ≤ v ∧ v ≤ zrmx p by unfold zrmn at hk; rw [if_neg q] at hk; exact hk)]
            exact ⟨fun q => absurd q (by decide), fun _ => g⟩
          · rw [c268, c173, if_pos (show 0 ≤ v ∧ v ≤ zrmx p by unfold zrmn at hk; rw [if_pos q] at hk; exact hk)]
            exact ⟨fun q => absurd q (by decide), fun _ => g⟩
    · refine ⟨(1, -1), D, L, hv, zrefC hW s (x161_0 (d := 1998) ?_), fun H1 c1 m1 => zrefM m1 (x267_0 (d := 1998) ?_)⟩
      · rw [c44, if_pos hp]
        refine ⟨fun q => absurd q (by decide), fun _ => ?_⟩
        rw [c162 hp, if_neg hk]
        exact ⟨fun q => absurd rfl q, fun _ => zPC_r zcf_rfl rfl⟩
      · rw [c173, if_pos hp]
        have g : zgo w (1998 + 1) 267 40 [zR 81, zI p, zI v, zJ, zJ] [zI 0] H1 (zQI (zPM H1 (1, -1))) := x267_40 (d := 1998) ⟨fun q => absurd rfl q, fun _ => (by
          rw [c174_1]; exact ⟨fun q => absurd rfl q, fun _ => zPM_n zmf_rfl rfl⟩)⟩
        refine ⟨fun q => absurd q (by decide), fun _ => ⟨fun q => ?_, fun q => ?_⟩⟩
        · rw [c268, c173, if_neg (show ¬ (1 ≤ v ∧ v ≤ zrmx p) by unfold zrmn at hk; rw [if_neg q] at hk; exact hk)]
          exact ⟨fun _ => g, fun q => absurd rfl q⟩
        · rw [c268, c173, if_neg (show ¬ (0 ≤ v ∧ v ≤ zrmx p) by unfold zrmn at hk; rw [if_pos q] at hk; exact hk)]
          exact ⟨fun _ => g, fun q => absurd rfl q⟩
  · refine ⟨(1, -1), D, L, hv, zrefC hW s (x161_0 (d := 1998) ?_), fun H1 c1 m1 => zrefM m1 (x267_0 (d := 1998) ?_)⟩
    · rw [c44, if_neg hp]
      exact ⟨fun _ => zPC_r zcf_rfl rfl, fun q => absurd rfl q⟩
    · rw [c173, if_neg hp]
      refine ⟨fun _ => x267_40 (d := 1998) ⟨fun q => absurd rfl q, fun _ => ?_⟩, fun q => absurd rfl q⟩
      rw [c174_1]; exact ⟨fun q => absurd rfl q, fun _ => zPM_n zmf_rfl rfl⟩)
end Z61
