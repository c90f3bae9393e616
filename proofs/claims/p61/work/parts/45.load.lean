/-! the law's load -/
theorem zcaI_of {w : zWt} {d t : Nat} {as : List zV} {H : zHt} {K : Int → zWt → zHt → Prop} (h : zclI w d t as H (fun x H' => K x w H')) : zcaI w d t as H K := ga_go h (fun r H' q => by obtain ⟨x, e, q⟩ := q; exact ⟨x, e, q⟩)
theorem zDss_at {w : zWt} {k : Nat} : ∀ {m : Nat}, k < m → (zDss w m).getD k 0 = (zDat w k : Int)
  | 0, h => by omega
  | m + 1, h => by
    show (zDss w m ++ [(zDat w m : Int)]).getD k 0 = _
    have hl := @zDss_l w m
    by_cases z : k = m
    · subst z
      have := @zget_app (zDss w k) (zDat w k : Int)
      rw [hl] at this
      exact this
    · rw [zget_app2 (by omega)]
      exact zDss_at (by omega)
/-- the desk told -/
def zTold (w0 : zWt) (H : zHt) : Prop := H 40 1 = (zDro w0 : Int) ∧ H 40 2 = (zDbo w0 : Int) ∧ H 40 3 = (zDst w0 : Int) ∧ H 40 4 = (zDla w0 : Int) ∧ (∀ k : Nat, k < zDro w0 → H 41 k = (zDat w0 k : Int)) ∧ H 32 12 = 0 ∧ ∀ q : Nat, q ≤ 5 → H (69 + 2 * q) 4 = 0
theorem zTold.bs {w0 : zWt} {H : zHt} (h : zTold w0 H) : zBs H := by
  obtain ⟨h1, h2, h3, h4, h5, h6, h7⟩ := h
  have b1 := zDla_r w0
  have b2 := zDbo_r w0
  have b3 := zDst_r w0
  have b4 := zDro_r w0
  refine ⟨?_, fun r r5 _ z => absurd (h7 r r5) z⟩
  unfold zDk
  rw [h1, h2, h3, h4]
  refine ⟨⟨by omega, by omega⟩, trivial, trivial, trivial, trivial, ⟨by omega, by omega⟩, ⟨by omega, by omega⟩, ⟨by omega, by omega⟩, fun k hk => ?_⟩
  have b5 := zDat_r w0 k
  rw [h5 k (by omega)]
  exact ⟨trivial, by omega, by omega⟩
section ZJ
variable {w w0 : zWt} {d : Nat} {H : zHt} {s : Int}
theorem zDtx_l : (zDtx w0).length ≤ 124 := by
  have h1 := @zDhd_l w0
  have h2 := @zDrs_l w0 (zDro w0)
  have h3 := zDro_r w0
  unfold zDtx
  rw [List.length_append]; omega
theorem zj179 {K : Int → zWt → zHt → Prop} (hu : zTxt w H s (zDtx w0)) (h8 : H 33 8 = 0) (k : ∀ w' H', zGw 20 w w' → zTold w0 H' → K (zDro w0 : Int) w' H') : zcaI w (d + 12) 179 [zR 32, zR s] H K := by
  have ul := @zDtx_l w0
  refine xa179_0 ⟨hu.tt.ge, xa178_0 ?_⟩
  refine zj178 (d := d + 7) hu (by omega) 7 0 w H (by omega) (by omega) zGw_rfl (by decide) ⟨fun _ _ _ => rfl, h8, fun j hj => absurd hj (Nat.not_lt_zero j), fun _ _ _ _ _ => rfl⟩ ?_
  intro n w1 H1 hn hg hF
  have hu1 := hu.mv hg.1 hF.1
  refine ⟨hu1.tt.ge, hu1.tt, zj23 hu1 ?_⟩
  have hT : zTx H1 (zch (zDtx w0)) ((zDtx w0).length : Int).toNat := by
    rw [Int.toNat_natCast]
    refine ⟨by omega, fun j hj => ?_⟩
    have := zch_r hu.tr j
    exact ⟨hF.2.2.1 j (by omega), this.1, by omega⟩
  have hr := zps_D (w := w0) (T := zch (zDtx w0)) (fun j hj => by unfold zch; rw [if_pos hj])
  have hb := b12 (w := w1) (d := d) (v := ((zDtx w0).length : Int)) (r := ((0, 0), ((zDss w0 (zDro w0), (zDbo w0 : Int), (zDst w0 : Int), (zDla w0 : Int)), zDnm (zDro w0)))) hT ⟨by omega, by rw [hF.2.1]; omega⟩ (by rw [Int.toNat_natCast]; exact hr)
  refine zclI_mono hb fun x H2 hq => ?_
  obtain ⟨q1, q2, q3 | q3⟩ := hq
  · obtain ⟨_, e1, e2, e3, e4, e5, e6, e7⟩ := q3
    obtain ⟨f1, f2, f3, f4, f5⟩ := e6
    have hl : (zDss w0 (zDro w0)).length = zDro w0 := zDss_l
    have e1 : x = ((zDss w0 (zDro w0)).length : Int) := e1
    have f1 : H2 40 1 = ((zDss w0 (zDro w0)).length : Int) := f1
    have f5 : zArr H2 41 (zDss w0 (zDro w0)) := f5
    rw [hl] at e1 f1
    rw [e1]
    refine k w1 H2 hg ⟨f1, f2, f3, f4, fun j hj => ?_, e3, e7⟩
    rw [f5 j (by omega)]
    exact zDss_at hj
  · exact absurd rfl q3.1
end ZJ
