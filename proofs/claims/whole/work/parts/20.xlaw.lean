/-! segments: what suffices for a run from there on (by wip/whole/gen3.py) -/
theorem zp0 : zprog.getD 0 [] = zk0 := rfl
theorem zap_l {a b : List (Option zC)} {k : Nat} {i : zC} (h : a.getD k none = some i) : (a ++ b).getD k none = some i := by
  rw [List.getD_eq_getElem?_getD] at h ⊢
  have hk : k < a.length := by
    rcases Nat.lt_or_ge k a.length with q | q
    · exact q
    · rw [List.getElem?_eq_none q] at h; cases h
  rw [List.getElem?_append_left hk]; exact h
theorem zap_r {a b : List (Option zC)} {n k : Nat} {i : zC} (hn : a.length = n) (h : b.getD k none = some i) : (a ++ b).getD (n + k) none = some i := by
  rw [List.getD_eq_getElem?_getD] at h ⊢
  rw [List.getElem?_append_right (by omega), hn, Nat.add_sub_cancel_left]; exact h
theorem zf0_0 {k : Nat} {i : zC} (h : zk0_0.getD k none = some i) : zk0.getD (k) none = some i := (zap_l (zap_l (zap_l (zap_l (zap_l (zap_l (zap_l (zap_l (zap_l (zap_l (zap_l (zap_l (zap_l (zap_l (zap_l (zap_l (zap_l (zap_l (zap_l (zap_l (zap_l (zap_l (zap_l (zap_l (zap_l h)))))))))))))))))))))))))
theorem zf0_1 {k : Nat} {i : zC} (h : zk0_1.getD k none = some i) : zk0.getD (90 + k) none = some i := (zap_l (zap_l (zap_l (zap_l (zap_l (zap_l (zap_l (zap_l (zap_l (zap_l (zap_l (zap_l (zap_l (zap_l (zap_l (zap_l (zap_l (zap_l (zap_l (zap_l (zap_l (zap_l (zap_l (zap_l (zap_r (by decide +kernel) h)))))))))))))))))))))))))
theorem zf0_2 {k : Nat} {i : zC} (h : zk0_2.getD k none = some i) : zk0.getD (180 + k) none = some i := (zap_l (zap_l (zap_l (zap_l (zap_l (zap_l (zap_l (zap_l (zap_l (zap_l (zap_l (zap_l (zap_l (zap_l (zap_l (zap_l (zap_l (zap_l (zap_l (zap_l (zap_l (zap_l (zap_l (zap_r (by decide +kernel) h))))))))))))))))))))))))
theorem zf0_3 {k : Nat} {i : zC} (h : zk0_3.getD k none = some i) : zk0.getD (270 + k) none = some i := (zap_l (zap_l (zap_l (zap_l (zap_l (zap_l (zap_l (zap_l (zap_l (zap_l (zap_l (zap_l (zap_l (zap_l (zap_l (zap_l (zap_l (zap_l (zap_l (zap_l (zap_l (zap_l (zap_r (by decide +kernel) h)))))))))))))))))))))))
theorem zf0_4 {k : Nat} {i : zC} (h : zk0_4.getD k none = some i) : zk0.getD (360 + k) none = some i := (zap_l (zap_l (zap_l (zap_l (zap_l (zap_l (zap_l (zap_l (zap_l (zap_l (zap_l (zap_l (zap_l (zap_l (zap_l (zap_l (zap_l (zap_l (zap_l (zap_l (zap_l (zap_r (by decide +kernel) h))))))))))))))))))))))
theorem zf0_5 {k : Nat} {i : zC} (h : zk0_5.getD k none = some i) : zk0.getD (450 + k) none = some i := (zap_l (zap_l (zap_l (zap_l (zap_l (zap_l (zap_l (zap_l (zap_l (zap_l (zap_l (zap_l (zap_l (zap_l (zap_l (zap_l (zap_l (zap_l (zap_l (zap_l (zap_r (by decide +kernel) h)))))))))))))))))))))
theorem zf0_6 {k : Nat} {i : zC} (h : zk0_6.getD k none = some i) : zk0.getD (540 + k) none = some i := (zap_l (zap_l (zap_l (zap_l (zap_l (zap_l (zap_l (zap_l (zap_l (zap_l (zap_l (zap_l (zap_l (zap_l (zap_l (zap_l (zap_l (zap_l (zap_l (zap_r (by decide +kernel) h))))))))))))))))))))
theorem zf0_7 {k : Nat} {i : zC} (h : zk0_7.getD k none = some i) : zk0.getD (630 + k) none = some i := (zap_l (zap_l (zap_l (zap_l (zap_l (zap_l (zap_l (zap_l (zap_l (zap_l (zap_l (zap_l (zap_l (zap_l (zap_l (zap_l (zap_l (zap_l (zap_r (by decide +kernel) h)))))))))))))))))))
theorem zf0_8 {k : Nat} {i : zC} (h : zk0_8.getD k none = some i) : zk0.getD (720 + k) none = some i := (zap_l (zap_l (zap_l (zap_l (zap_l (zap_l (zap_l (zap_l (zap_l (zap_l (zap_l (zap_l (zap_l (zap_l (zap_l (zap_l (zap_l (zap_r (by decide +kernel) h))))))))))))))))))
theorem zf0_9 {k : Nat} {i : zC} (h : zk0_9.getD k none = some i) : zk0.getD (810 + k) none = some i := (zap_l (zap_l (zap_l (zap_l (zap_l (zap_l (zap_l (zap_l (zap_l (zap_l (zap_l (zap_l (zap_l (zap_l (zap_l (zap_l (zap_r (by decide +kernel) h)))))))))))))))))
theorem zf0_10 {k : Nat} {i : zC} (h : zk0_10.getD k none = some i) : zk0.getD (900 + k) none = some i := (zap_l (zap_l (zap_l (zap_l (zap_l (zap_l (zap_l (zap_l (zap_l (zap_l (zap_l (zap_l (zap_l (zap_l (zap_l (zap_r (by decide +kernel) h))))))))))))))))
theorem zf0_11 {k : Nat} {i : zC} (h : zk0_11.getD k none = some i) : zk0.getD (990 + k) none = some i := (zap_l (zap_l (zap_l (zap_l (zap_l (zap_l (zap_l (zap_l (zap_l (zap_l (zap_l (zap_l (zap_l (zap_l (zap_r (by decide +kernel) h)))))))))))))))
theorem zf0_12 {k : Nat} {i : zC} (h : zk0_12.getD k none = some i) : zk0.getD (1080 + k) none = some i := (zap_l (zap_l (zap_l (zap_l (zap_l (zap_l (zap_l (zap_l (zap_l (zap_l (zap_l (zap_l (zap_l (zap_r (by decide +kernel) h))))))))))))))
theorem zf0_13 {k : Nat} {i : zC} (h : zk0_13.getD k none = some i) : zk0.getD (1170 + k) none = some i := (zap_l (zap_l (zap_l (zap_l (zap_l (zap_l (zap_l (zap_l (zap_l (zap_l (zap_l (zap_l (zap_r (by decide +kernel) h)))))))))))))
theorem zf0_14 {k : Nat} {i : zC} (h : zk0_14.getD k none = some i) : zk0.getD (1260 + k) none = some i := (zap_l (zap_l (zap_l (zap_l (zap_l (zap_l (zap_l (zap_l (zap_l (zap_l (zap_l (zap_r (by decide +kernel) h))))))))))))
theorem zf0_15 {k : Nat} {i : zC} (h : zk0_15.getD k none = some i) : zk0.getD (1350 + k) none = some i := (zap_l (zap_l (zap_l (zap_l (zap_l (zap_l (zap_l (zap_l (zap_l (zap_l (zap_r (by decide +kernel) h)))))))))))
theorem zf0_16 {k : Nat} {i : zC} (h : zk0_16.getD k none = some i) : zk0.getD (1440 + k) none = some i := (zap_l (zap_l (zap_l (zap_l (zap_l (zap_l (zap_l (zap_l (zap_l (zap_r (by decide +kernel) h))))))))))
theorem zf0_17 {k : Nat} {i : zC} (h : zk0_17.getD k none = some i) : zk0.getD (1530 + k) none = some i := (zap_l (zap_l (zap_l (zap_l (zap_l (zap_l (zap_l (zap_l (zap_r (by decide +kernel) h)))))))))
theorem zf0_18 {k : Nat} {i : zC} (h : zk0_18.getD k none = some i) : zk0.getD (1620 + k) none = some i := (zap_l (zap_l (zap_l (zap_l (zap_l (zap_l (zap_l (zap_r (by decide +kernel) h))))))))
theorem zf0_19 {k : Nat} {i : zC} (h : zk0_19.getD k none = some i) : zk0.getD (1710 + k) none = some i := (zap_l (zap_l (zap_l (zap_l (zap_l (zap_l (zap_r (by decide +kernel) h)))))))
theorem zf0_20 {k : Nat} {i : zC} (h : zk0_20.getD k none = some i) : zk0.getD (1800 + k) none = some i := (zap_l (zap_l (zap_l (zap_l (zap_l (zap_r (by decide +kernel) h))))))
theorem zf0_21 {k : Nat} {i : zC} (h : zk0_21.getD k none = some i) : zk0.getD (1890 + k) none = some i := (zap_l (zap_l (zap_l (zap_l (zap_r (by decide +kernel) h)))))
theorem zf0_22 {k : Nat} {i : zC} (h : zk0_22.getD k none = some i) : zk0.getD (1980 + k) none = some i := (zap_l (zap_l (zap_l (zap_r (by decide +kernel) h))))
theorem zf0_23 {k : Nat} {i : zC} (h : zk0_23.getD k none = some i) : zk0.getD (2070 + k) none = some i := (zap_l (zap_l (zap_r (by decide +kernel) h)))
theorem zf0_24 {k : Nat} {i : zC} (h : zk0_24.getD k none = some i) : zk0.getD (2160 + k) none = some i := (zap_l (zap_r (by decide +kernel) h))
theorem zf0_25 {k : Nat} {i : zC} (h : zk0_25.getD k none = some i) : zk0.getD (2250 + k) none = some i := (zap_r (by decide +kernel) h)
set_option maxRecDepth 40000 in
theorem x0_18 {w : zWt} {d : Nat} {H : zHt} {K : Int → zHt → Prop} {l3 : Int}
    (h : ((w32 ((w.1 : Int) - 6)) < l3 → K 1 H) ∧ (l3 ≤ (w32 ((w.1 : Int) - 6)) → (0 ≤ l3 ∧ l3 < (w.1 : Int)) ∧ ((zand (zH0 w.2 0 l3) 63) < 0 ∨ 58 ≤ (zand (zH0 w.2 0 l3) 63) → zgo w (d + 1) 0 2245 [zR 0, zR 32, zR 81, zI l3] [] H (zQI K)) ∧ ((zand (zH0 w.2 0 l3) 63) = 0 → zgo w (d + 1) 0 280 [zR 0, zR 32, zR 81, zI l3] [] H (zQI K)) ∧ ((zand (zH0 w.2 0 l3) 63) = 1 → zgo w (d + 1) 0 293 [zR 0, zR 32, zR 81, zI l3] [] H (zQI K)) ∧ ((zand (zH0 w.2 0 l3) 63) = 2 → zgo w (d + 1) 0 356 [zR 0, zR 32, zR 81, zI l3] [] H (zQI K)) ∧ ((zand (zH0 w.2 0 l3) 63) = 3 → zgo w (d + 1) 0 379 [zR 0, zR 32, zR 81, zI l3] [] H (zQI K)) ∧ ((zand (zH0 w.2 0 l3) 63) = 4 → zgo w (d + 1) 0 402 [zR 0, zR 32, zR 81, zI l3] [] H (zQI K)) ∧ ((zand (zH0 w.2 0 l3) 63) = 5 → zgo w (d + 1) 0 425 [zR 0, zR 32, zR 81, zI l3] [] H (zQI K)) ∧ ((zand (zH0 w.2 0 l3) 63) = 6 → zgo w (d + 1) 0 468 [zR 0, zR 32, zR 81, zI l3] [] H (zQI K)) ∧ ((zand (zH0 w.2 0 l3) 63) = 7 → zgo w (d + 1) 0 492 [zR 0, zR 32, zR 81, zI l3] [] H (zQI K)) ∧ ((zand (zH0 w.2 0 l3) 63) = 8 → zgo w (d + 1) 0 515 [zR 0, zR 32, zR 81, zI l3] [] H (zQI K)) ∧ ((zand (zH0 w.2 0 l3) 63) = 9 → zgo w (d + 1) 0 548 [zR 0, zR 32, zR 81, zI l3] [] H (zQI K)) ∧ ((zand (zH0 w.2 0 l3) 63) = 10 → zgo w (d + 1) 0 581 [zR 0, zR 32, zR 81, zI l3] [] H (zQI K)) ∧ ((zand (zH0 w.2 0 l3) 63) = 11 → zgo w (d + 1) 0 604 [zR 0, zR 32, zR 81, zI l3] [] H (zQI K)) ∧ ((zand (zH0 w.2 0 l3) 63) = 12 → zgo w (d + 1) 0 638 [zR 0, zR 32, zR 81, zI l3] [] H (zQI K)) ∧ ((zand (zH0 w.2 0 l3) 63) = 13 → zgo w (d + 1) 0 671 [zR 0, zR 32, zR 81, zI l3] [] H (zQI K)) ∧ ((zand (zH0 w.2 0 l3) 63) = 14 → zgo w (d + 1) 0 724 [zR 0, zR 32, zR 81, zI l3] [] H (zQI K)) ∧ ((zand (zH0 w.2 0 l3) 63) = 15 → zgo w (d + 1) 0 767 [zR 0, zR 32, zR 81, zI l3] [] H (zQI K)) ∧ ((zand (zH0 w.2 0 l3) 63) = 16 → zgo w (d + 1) 0 810 [zR 0, zR 32, zR 81, zI l3] [] H (zQI K)) ∧ ((zand (zH0 w.2 0 l3) 63) = 17 → zgo w (d + 1) 0 843 [zR 0, zR 32, zR 81, zI l3] [] H (zQI K)) ∧ ((zand (zH0 w.2 0 l3) 63) = 18 → zgo w (d + 1) 0 876 [zR 0, zR 32, zR 81, zI l3] [] H (zQI K)) ∧ ((zand (zH0 w.2 0 l3) 63) = 19 → zgo w (d + 1) 0 899 [zR 0, zR 32, zR 81, zI l3] [] H (zQI K)) ∧ ((zand (zH0 w.2 0 l3) 63) = 20 → zgo w (d + 1) 0 932 [zR 0, zR 32, zR 81, zI l3] [] H (zQI K)) ∧ ((zand (zH0 w.2 0 l3) 63) = 21 → zgo w (d + 1) 0 992 [zR 0, zR 32, zR 81, zI l3] [] H (zQI K)) ∧ ((zand (zH0 w.2 0 l3) 63) = 22 → zgo w (d + 1) 0 1035 [zR 0, zR 32, zR 81, zI l3] [] H (zQI K)) ∧ ((zand (zH0 w.2 0 l3) 63) = 23 → zgo w (d + 1) 0 1058 [zR 0, zR 32, zR 81, zI l3] [] H (zQI K)) ∧ ((zand (zH0 w.2 0 l3) 63) = 24 → zgo w (d + 1) 0 1091 [zR 0, zR 32, zR 81, zI l3] [] H (zQI K)) ∧ ((zand (zH0 w.2 0 l3) 63) = 25 → zgo w (d + 1) 0 1124 [zR 0, zR 32, zR 81, zI l3] [] H (zQI K)) ∧ ((zand (zH0 w.2 0 l3) 63) = 26 → zgo w (d + 1) 0 1167 [zR 0, zR 32, zR 81, zI l3] [] H (zQI K)) ∧ ((zand (zH0 w.2 0 l3) 63) = 27 → zgo w (d + 1) 0 1190 [zR 0, zR 32, zR 81, zI l3] [] H (zQI K)) ∧ ((zand (zH0 w.2 0 l3) 63) = 28 → zgo w (d + 1) 0 1223 [zR 0, zR 32, zR 81, zI l3] [] H (zQI K)) ∧ ((zand (zH0 w.2 0 l3) 63) = 29 → zgo w (d + 1) 0 1246 [zR 0, zR 32, zR 81, zI l3] [] H (zQI K)) ∧ ((zand (zH0 w.2 0 l3) 63) = 30 → zgo w (d + 1) 0 1279 [zR 0, zR 32, zR 81, zI l3] [] H (zQI K)) ∧ ((zand (zH0 w.2 0 l3) 63) = 31 → zgo w (d + 1) 0 1312 [zR 0, zR 32, zR 81, zI l3] [] H (zQI K)) ∧ ((zand (zH0 w.2 0 l3) 63) = 32 → zgo w (d + 1) 0 1345 [zR 0, zR 32, zR 81, zI l3] [] H (zQI K)) ∧ ((zand (zH0 w.2 0 l3) 63) = 33 → zgo w (d + 1) 0 1379 [zR 0, zR 32, zR 81, zI l3] [] H (zQI K)) ∧ ((zand (zH0 w.2 0 l3) 63) = 34 → zgo w (d + 1) 0 1412 [zR 0, zR 32, zR 81, zI l3] [] H (zQI K)) ∧ ((zand (zH0 w.2 0 l3) 63) = 35 → zgo w (d + 1) 0 1445 [zR 0, zR 32, zR 81, zI l3] [] H (zQI K)) ∧ ((zand (zH0 w.2 0 l3) 63) = 36 → zgo w (d + 1) 0 1478 [zR 0, zR 32, zR 81, zI l3] [] H (zQI K)) ∧ ((zand (zH0 w.2 0 l3) 63) = 37 → zgo w (d + 1) 0 1521 [zR 0, zR 32, zR 81, zI l3] [] H (zQI K)) ∧ ((zand (zH0 w.2 0 l3) 63) = 38 → zgo w (d + 1) 0 1554 [zR 0, zR 32, zR 81, zI l3] [] H (zQI K)) ∧ ((zand (zH0 w.2 0 l3) 63) = 39 → zgo w (d + 1) 0 1597 [zR 0, zR 32, zR 81, zI l3] [] H (zQI K)) ∧ ((zand (zH0 w.2 0 l3) 63) = 40 → zgo w (d + 1) 0 1640 [zR 0, zR 32, zR 81, zI l3] [] H (zQI K)) ∧ ((zand (zH0 w.2 0 l3) 63) = 41 → zgo w (d + 1) 0 1663 [zR 0, zR 32, zR 81, zI l3] [] H (zQI K)) ∧ ((zand (zH0 w.2 0 l3) 63) = 42 → zgo w (d + 1) 0 1706 [zR 0, zR 32, zR 81, zI l3] [] H (zQI K)) ∧ ((zand (zH0 w.2 0 l3) 63) = 43 → zgo w (d + 1) 0 1759 [zR 0, zR 32, zR 81, zI l3] [] H (zQI K)) ∧ ((zand (zH0 w.2 0 l3) 63) = 44 → zgo w (d + 1) 0 1812 [zR 0, zR 32, zR 81, zI l3] [] H (zQI K)) ∧ ((zand (zH0 w.2 0 l3) 63) = 45 → zgo w (d + 1) 0 1855 [zR 0, zR 32, zR 81, zI l3] [] H (zQI K)) ∧ ((zand (zH0 w.2 0 l3) 63) = 46 → zgo w (d + 1) 0 1898 [zR 0, zR 32, zR 81, zI l3] [] H (zQI K)) ∧ ((zand (zH0 w.2 0 l3) 63) = 47 → zgo w (d + 1) 0 1941 [zR 0, zR 32, zR 81, zI l3] [] H (zQI K)) ∧ ((zand (zH0 w.2 0 l3) 63) = 48 → zgo w (d + 1) 0 1974 [zR 0, zR 32, zR 81, zI l3] [] H (zQI K)) ∧ ((zand (zH0 w.2 0 l3) 63) = 49 → zgo w (d + 1) 0 2018 [zR 0, zR 32, zR 81, zI l3] [] H (zQI K)) ∧ ((zand (zH0 w.2 0 l3) 63) = 50 → zgo w (d + 1) 0 2041 [zR 0, zR 32, zR 81, zI l3] [] H (zQI K)) ∧ ((zand (zH0 w.2 0 l3) 63) = 51 → zgo w (d + 1) 0 2074 [zR 0, zR 32, zR 81, zI l3] [] H (zQI K)) ∧ ((zand (zH0 w.2 0 l3) 63) = 52 → zgo w (d + 1) 0 2097 [zR 0, zR 32, zR 81, zI l3] [] H (zQI K)) ∧ ((zand (zH0 w.2 0 l3) 63) = 53 → zgo w (d + 1) 0 2120 [zR 0, zR 32, zR 81, zI l3] [] H (zQI K)) ∧ ((zand (zH0 w.2 0 l3) 63) = 54 → zgo w (d + 1) 0 2153 [zR 0, zR 32, zR 81, zI l3] [] H (zQI K)) ∧ ((zand (zH0 w.2 0 l3) 63) = 55 → zgo w (d + 1) 0 2186 [zR 0, zR 32, zR 81, zI l3] [] H (zQI K)) ∧ ((zand (zH0 w.2 0 l3) 63) = 56 → zgo w (d + 1) 0 2209 [zR 0, zR 32, zR 81, zI l3] [] H (zQI K)) ∧ ((zand (zH0 w.2 0 l3) 63) = 57 → zgo w (d + 1) 0 2232 [zR 0, zR 32, zR 81, zI l3] [] H (zQI K)))) :
    zgo w (d + 1) 0 18 [zR 0, zR 32, zR 81, zI l3] [] H (zQI K) := by
  refine g_il zp0 (zf0_0 (k := 18) rfl) rfl rfl ?_
  refine g_al zp0 (zf0_0 (k := 19) rfl) rfl rfl (by decide) ?_
  refine g_len zp0 (zf0_0 (k := 20) rfl) rfl rfl (by decide) ?_
  refine g_ic zp0 (zf0_0 (k := 21) rfl) rfl ?_
  refine g_ar (r := w32 ((w.1 : Int) - 6)) zp0 (zf0_0 (k := 23) rfl) rfl rfl ?_
  refine g_icmp zp0 (zf0_0 (k := 24) rfl) rfl zc4 (fun c1 => ?_) (fun c1 => ?_)
  · replace h := h.1 c1
    refine g_ic zp0 (zf0_25 (k := 1) rfl) rfl ?_
    exact g_ret zp0 (zf0_25 (k := 2) rfl) (zret_b (by decide)) ⟨_, rfl, h⟩
  · replace h := h.2 c1
    refine g_al zp0 (zf0_0 (k := 27) rfl) rfl rfl (by decide) ?_
    refine g_il zp0 (zf0_0 (k := 28) rfl) rfl rfl ?_
    obtain ⟨c2, h⟩ := h
    refine g_ald (v := zI (zH0 w.2 0 l3)) zp0 (zf0_0 (k := 29) rfl) rfl rfl rfl c2 rfl ?_
    refine g_ic zp0 (zf0_0 (k := 30) rfl) rfl ?_
    refine g_ar (r := zand (zH0 w.2 0 l3) 63) zp0 (zf0_0 (k := 32) rfl) rfl rfl ?_
    rcases Classical.em ((zand (zH0 w.2 0 l3) 63) < 0 ∨ 58 ≤ (zand (zH0 w.2 0 l3) 63)) with c | c
    · refine g_tabO zp0 (zf0_0 (k := 33) rfl) c ?_
      replace h := h.1 c
      exact g_weak (ls' := [zR 0, zR 32, zR 81, zI l3]) ⟨Or.inr rfl, Or.inr rfl, Or.inr rfl, Or.inr rfl, trivial⟩ h
    · replace h := h.2
      have hh : (zand (zH0 w.2 0 l3) 63) = 0 ∨ (zand (zH0 w.2 0 l3) 63) = 1 ∨ (zand (zH0 w.2 0 l3) 63) = 2 ∨ (zand (zH0 w.2 0 l3) 63) = 3 ∨ (zand (zH0 w.2 0 l3) 63) = 4 ∨ (zand (zH0 w.2 0 l3) 63) = 5 ∨ (zand (zH0 w.2 0 l3) 63) = 6 ∨ (zand (zH0 w.2 0 l3) 63) = 7 ∨ (zand (zH0 w.2 0 l3) 63) = 8 ∨ (zand (zH0 w.2 0 l3) 63) = 9 ∨ (zand (zH0 w.2 0 l3) 63) = 10 ∨ (zand (zH0 w.2 0 l3) 63) = 11 ∨ (zand (zH0 w.2 0 l3) 63) = 12 ∨ (zand (zH0 w.2 0 l3) 63) = 13 ∨ (zand (zH0 w.2 0 l3) 63) = 14 ∨ (zand (zH0 w.2 0 l3) 63) = 15 ∨ (zand (zH0 w.2 0 l3) 63) = 16 ∨ (zand (zH0 w.2 0 l3) 63) = 17 ∨ (zand (zH0 w.2 0 l3) 63) = 18 ∨ (zand (zH0 w.2 0 l3) 63) = 19 ∨ (zand (zH0 w.2 0 l3) 63) = 20 ∨ (zand (zH0 w.2 0 l3) 63) = 21 ∨ (zand (zH0 w.2 0 l3) 63) = 22 ∨ (zand (zH0 w.2 0 l3) 63) = 23 ∨ (zand (zH0 w.2 0 l3) 63) = 24 ∨ (zand (zH0 w.2 0 l3) 63) = 25 ∨ (zand (zH0 w.2 0 l3) 63) = 26 ∨ (zand (zH0 w.2 0 l3) 63) = 27 ∨ (zand (zH0 w.2 0 l3) 63) = 28 ∨ (zand (zH0 w.2 0 l3) 63) = 29 ∨ (zand (zH0 w.2 0 l3) 63) = 30 ∨ (zand (zH0 w.2 0 l3) 63) = 31 ∨ (zand (zH0 w.2 0 l3) 63) = 32 ∨ (zand (zH0 w.2 0 l3) 63) = 33 ∨ (zand (zH0 w.2 0 l3) 63) = 34 ∨ (zand (zH0 w.2 0 l3) 63) = 35 ∨ (zand (zH0 w.2 0 l3) 63) = 36 ∨ (zand (zH0 w.2 0 l3) 63) = 37 ∨ (zand (zH0 w.2 0 l3) 63) = 38 ∨ (zand (zH0 w.2 0 l3) 63) = 39 ∨ (zand (zH0 w.2 0 l3) 63) = 40 ∨ (zand (zH0 w.2 0 l3) 63) = 41 ∨ (zand (zH0 w.2 0 l3) 63) = 42 ∨ (zand (zH0 w.2 0 l3) 63) = 43 ∨ (zand (zH0 w.2 0 l3) 63) = 44 ∨ (zand (zH0 w.2 0 l3) 63) = 45 ∨ (zand (zH0 w.2 0 l3) 63) = 46 ∨ (zand (zH0 w.2 0 l3) 63) = 47 ∨ (zand (zH0 w.2 0 l3) 63) = 48 ∨ (zand (zH0 w.2 0 l3) 63) = 49 ∨ (zand (zH0 w.2 0 l3) 63) = 50 ∨ (zand (zH0 w.2 0 l3) 63) = 51 ∨ (zand (zH0 w.2 0 l3) 63) = 52 ∨ (zand (zH0 w.2 0 l3) 63) = 53 ∨ (zand (zH0 w.2 0 l3) 63) = 54 ∨ (zand (zH0 w.2 0 l3) 63) = 55 ∨ (zand (zH0 w.2 0 l3) 63) = 56 ∨ (zand (zH0 w.2 0 l3) 63) = 57 := by omega
      rcases hh with c | c | c | c | c | c | c | c | c | c | c | c | c | c | c | c | c | c | c | c | c | c | c | c | c | c | c | c | c | c | c | c | c | c | c | c | c | c | c | c | c | c | c | c | c | c | c | c | c | c | c | c | c | c | c | c | c | c
      · replace h := h.1 c
        refine g_tabE (z := 0) zp0 (zf0_0 (k := 33) rfl) c (by decide) rfl ?_
        exact g_weak (ls' := [zR 0, zR 32, zR 81, zI l3]) ⟨Or.inr rfl, Or.inr rfl, Or.inr rfl, Or.inr rfl, trivial⟩ h
      · replace h := h.2.1 c
        refine g_tabE (z := 1) zp0 (zf0_0 (k := 33) rfl) c (by decide) rfl ?_
        exact g_weak (ls' := [zR 0, zR 32, zR 81, zI l3]) ⟨Or.inr rfl, Or.inr rfl, Or.inr rfl, Or.inr rfl, trivial⟩ h
      · replace h := h.2.2.1 c
        refine g_tabE (z := 2) zp0 (zf0_0 (k := 33) rfl) c (by decide) rfl ?_
        exact g_weak (ls' := [zR 0, zR 32, zR 81, zI l3]) ⟨Or.inr rfl, Or.inr rfl, Or.inr rfl, Or.inr rfl, trivial⟩ h
      · replace h := h.2.2.2.1 c
        refine g_tabE (z := 3) zp0 (zf0_0 (k := 33) rfl) c (by decide) rfl ?_
        exact g_weak (ls' := [zR 0, zR 32, zR 81, zI l3]) ⟨Or.inr rfl, Or.inr rfl, Or.inr rfl, Or.inr rfl, trivial⟩ h
      · replace h := h.2.2.2.2.1 c
        refine g_tabE (z := 4) zp0 (zf0_0 (k := 33) rfl) c (by decide) rfl ?_
        exact g_weak (ls' := [zR 0, zR 32, zR 81, zI l3]) ⟨Or.inr rfl, Or.inr rfl, Or.inr rfl, Or.inr rfl, trivial⟩ h
      · replace h := h.2.2.2.2.2.1 c
        refine g_tabE (z := 5) zp0 (zf0_0 (k := 33) rfl) c (by decide) rfl ?_
        exact g_weak (ls' := [zR 0, zR 32, zR 81, zI l3]) ⟨Or.inr rfl, Or.inr rfl, Or.inr rfl, Or.inr rfl, trivial⟩ h
      · replace h := h.2.2.2.2.2.2.1 c
        refine g_tabE (z := 6) zp0 (zf0_0 (k := 33) rfl) c (by decide) rfl ?_
        exact g_weak (ls' := [zR 0, zR 32, zR 81, zI l3]) ⟨Or.inr rfl, Or.inr rfl, Or.inr rfl, Or.inr rfl, trivial⟩ h
      · replace h := h.2.2.2.2.2.2.2.1 c
        refine g_tabE (z := 7) zp0 (zf0_0 (k := 33) rfl) c (by decide) rfl ?_
        exact g_weak (ls' := [zR 0, zR 32, zR 81, zI l3]) ⟨Or.inr rfl, Or.inr rfl, Or.inr rfl, Or.inr rfl, trivial⟩ h
      · replace h := h.2.2.2.2.2.2.2.2.1 c
        refine g_tabE (z := 8) zp0 (zf0_0 (k := 33) rfl) c (by decide) rfl ?_
        exact g_weak (ls' := [zR 0, zR 32, zR 81, zI l3]) ⟨Or.inr rfl, Or.inr rfl, Or.inr rfl, Or.inr rfl, trivial⟩ h
      · replace h := h.2.2.2.2.2.2.2.2.2.1 c
        refine g_tabE (z := 9) zp0 (zf0_0 (k := 33) rfl) c (by decide) rfl ?_
        exact g_weak (ls' := [zR 0, zR 32, zR 81, zI l3]) ⟨Or.inr rfl, Or.inr rfl, Or.inr rfl, Or.inr rfl, trivial⟩ h
      · replace h := h.2.2.2.2.2.2.2.2.2.2.1 c
        refine g_tabE (z := 10) zp0 (zf0_0 (k := 33) rfl) c (by decide) rfl ?_
        exact g_weak (ls' := [zR 0, zR 32, zR 81, zI l3]) ⟨Or.inr rfl, Or.inr rfl, Or.inr rfl, Or.inr rfl, trivial⟩ h
      · replace h := h.2.2.2.2.2.2.2.2.2.2.2.1 c
        refine g_tabE (z := 11) zp0 (zf0_0 (k := 33) rfl) c (by decide) rfl ?_
        exact g_weak (ls' := [zR 0, zR 32, zR 81, zI l3]) ⟨Or.inr rfl, Or.inr rfl, Or.inr rfl, Or.inr rfl, trivial⟩ h
      · replace h := h.2.2.2.2.2.2.2.2.2.2.2.2.1 c
        refine g_tabE (z := 12) zp0 (zf0_0 (k := 33) rfl) c (by decide) rfl ?_
        exact g_weak (ls' := [zR 0, zR 32, zR 81, zI l3]) ⟨Or.inr rfl, Or.inr rfl, Or.inr rfl, Or.inr rfl, trivial⟩ h
      · replace h := h.2.2.2.2.2.2.2.2.2.2.2.2.2.1 c
        refine g_tabE (z := 13) zp0 (zf0_0 (k := 33) rfl) c (by decide) rfl ?_
        exact g_weak (ls' := [zR 0, zR 32, zR 81, zI l3]) ⟨Or.inr rfl, Or.inr rfl, Or.inr rfl, Or.inr rfl, trivial⟩ h
      · replace h := h.2.2.2.2.2.2.2.2.2.2.2.2.2.2.1 c
        refine g_tabE (z := 14) zp0 (zf0_0 (k := 33) rfl) c (by decide) rfl ?_
        exact g_weak (ls' := [zR 0, zR 32, zR 81, zI l3]) ⟨Or.inr rfl, Or.inr rfl, Or.inr rfl, Or.inr rfl, trivial⟩ h
      · replace h := h.2.2.2.2.2.2.2.2.2.2.2.2.2.2.2.1 c
        refine g_tabE (z := 15) zp0 (zf0_0 (k := 33) rfl) c (by decide) rfl ?_
        exact g_weak (ls' := [zR 0, zR 32, zR 81, zI l3]) ⟨Or.inr rfl, Or.inr rfl, Or.inr rfl, Or.inr rfl, trivial⟩ h
      · replace h := h.2.2.2.2.2.2.2.2.2.2.2.2.2.2.2.2.1 c
        refine g_tabE (z := 16) zp0 (zf0_0 (k := 33) rfl) c (by decide) rfl ?_
        exact g_weak (ls' := [zR 0, zR 32, zR 81, zI l3]) ⟨Or.inr rfl, Or.inr rfl, Or.inr rfl, Or.inr rfl, trivial⟩ h
      · replace h := h.2.2.2.2.2.2.2.2.2.2.2.2.2.2.2.2.2.1 c
        refine g_tabE (z := 17) zp0 (zf0_0 (k := 33) rfl) c (by decide) rfl ?_
        exact g_weak (ls' := [zR 0, zR 32, zR 81, zI l3]) ⟨Or.inr rfl, Or.inr rfl, Or.inr rfl, Or.inr rfl, trivial⟩ h
      · replace h := h.2.2.2.2.2.2.2.2.2.2.2.2.2.2.2.2.2.2.1 c
        refine g_tabE (z := 18) zp0 (zf0_0 (k := 33) rfl) c (by decide) rfl ?_
        exact g_weak (ls' := [zR 0, zR 32, zR 81, zI l3]) ⟨Or.inr rfl, Or.inr rfl, Or.inr rfl, Or.inr rfl, trivial⟩ h
      · replace h := h.2.2.2.2.2.2.2.2.2.2.2.2.2.2.2.2.2.2.2.1 c
        refine g_tabE (z := 19) zp0 (zf0_0 (k := 33) rfl) c (by decide) rfl ?_
        exact g_weak (ls' := [zR 0, zR 32, zR 81, zI l3]) ⟨Or.inr rfl, Or.inr rfl, Or.inr rfl, Or.inr rfl, trivial⟩ h
      · replace h := h.2.2.2.2.2.2.2.2.2.2.2.2.2.2.2.2.2.2.2.2.1 c
        refine g_tabE (z := 20) zp0 (zf0_0 (k := 33) rfl) c (by decide) rfl ?_
        exact g_weak (ls' := [zR 0, zR 32, zR 81, zI l3]) ⟨Or.inr rfl, Or.inr rfl, Or.inr rfl, Or.inr rfl, trivial⟩ h
      · replace h := h.2.2.2.2.2.2.2.2.2.2.2.2.2.2.2.2.2.2.2.2.2.1 c
        refine g_tabE (z := 21) zp0 (zf0_0 (k := 33) rfl) c (by decide) rfl ?_
        exact g_weak (ls' := [zR 0, zR 32, zR 81, zI l3]) ⟨Or.inr rfl, Or.inr rfl, Or.inr rfl, Or.inr rfl, trivial⟩ h
      · replace h := h.2.2.2.2.2.2.2.2.2.2.2.2.2.2.2.2.2.2.2.2.2.2.1 c
        refine g_tabE (z := 22) zp0 (zf0_0 (k := 33) rfl) c (by decide) rfl ?_
        exact g_weak (ls' := [zR 0, zR 32, zR 81, zI l3]) ⟨Or.inr rfl, Or.inr rfl, Or.inr rfl, Or.inr rfl, trivial⟩ h
      · replace h := h.2.2.2.2.2.2.2.2.2.2.2.2.2.2.2.2.2.2.2.2.2.2.2.1 c
        refine g_tabE (z := 23) zp0 (zf0_0 (k := 33) rfl) c (by decide) rfl ?_
        exact g_weak (ls' := [zR 0, zR 32, zR 81, zI l3]) ⟨Or.inr rfl, Or.inr rfl, Or.inr rfl, Or.inr rfl, trivial⟩ h
      · replace h := h.2.2.2.2.2.2.2.2.2.2.2.2.2.2.2.2.2.2.2.2.2.2.2.2.1 c
        refine g_tabE (z := 24) zp0 (zf0_0 (k := 33) rfl) c (by decide) rfl ?_
        exact g_weak (ls' := [zR 0, zR 32, zR 81, zI l3]) ⟨Or.inr rfl, Or.inr rfl, Or.inr rfl, Or.inr rfl, trivial⟩ h
      · replace h := h.2.2.2.2.2.2.2.2.2.2.2.2.2.2.2.2.2.2.2.2.2.2.2.2.2.1 c
        refine g_tabE (z := 25) zp0 (zf0_0 (k := 33) rfl) c (by decide) rfl ?_
        exact g_weak (ls' := [zR 0, zR 32, zR 81, zI l3]) ⟨Or.inr rfl, Or.inr rfl, Or.inr rfl, Or.inr rfl, trivial⟩ h
      · replace h := h.2.2.2.2.2.2.2.2.2.2.2.2.2.2.2.2.2.2.2.2.2.2.2.2.2.2.1 c
        refine g_tabE (z := 26) zp0 (zf0_0 (k := 33) rfl) c (by decide) rfl ?_
        exact g_weak (ls' := [zR 0, zR 32, zR 81, zI l3]) ⟨Or.inr rfl, Or.inr rfl, Or.inr rfl, Or.inr rfl, trivial⟩ h
      · replace h := h.2.2.2.2.2.2.2.2.2.2.2.2.2.2.2.2.2.2.2.2.2.2.2.2.2.2.2.1 c
        refine g_tabE (z := 27) zp0 (zf0_0 (k := 33) rfl) c (by decide) rfl ?_
        exact g_weak (ls' := [zR 0, zR 32, zR 81, zI l3]) ⟨Or.inr rfl, Or.inr rfl, Or.inr rfl, Or.inr rfl, trivial⟩ h
      · replace h := h.2.2.2.2.2.2.2.2.2.2.2.2.2.2.2.2.2.2.2.2.2.2.2.2.2.2.2.2.1 c
        refine g_tabE (z := 28) zp0 (zf0_0 (k := 33) rfl) c (by decide) rfl ?_
        exact g_weak (ls' := [zR 0, zR 32, zR 81, zI l3]) ⟨Or.inr rfl, Or.inr rfl, Or.inr rfl, Or.inr rfl, trivial⟩ h
      · replace h := h.2.2.2.2.2.2.2.2.2.2.2.2.2.2.2.2.2.2.2.2.2.2.2.2.2.2.2.2.2.1 c
        refine g_tabE (z := 29) zp0 (zf0_0 (k := 33) rfl) c (by decide) rfl ?_
        exact g_weak (ls' := [zR 0, zR 32, zR 81, zI l3]) ⟨Or.inr rfl, Or.inr rfl, Or.inr rfl, Or.inr rfl, trivial⟩ h
      · replace h := h.2.2.2.2.2.2.2.2.2.2.2.2.2.2.2.2.2.2.2.2.2.2.2.2.2.2.2.2.2.2.1 c
        refine g_tabE (z := 30) zp0 (zf0_0 (k := 33) rfl) c (by decide) rfl ?_
        exact g_weak (ls' := [zR 0, zR 32, zR 81, zI l3]) ⟨Or.inr rfl, Or.inr rfl, Or.inr rfl, Or.inr rfl, trivial⟩ h
      · replace h := h.2.2.2.2.2.2.2.2.2.2.2.2.2.2.2.2.2.2.2.2.2.2.2.2.2.2.2.2.2.2.2.1 c
        refine g_tabE (z := 31) zp0 (zf0_0 (k := 33) rfl) c (by decide) rfl ?_
        exact g_weak (ls' := [zR 0, zR 32, zR 81, zI l3]) ⟨Or.inr rfl, Or.inr rfl, Or.inr rfl, Or.inr rfl, trivial⟩ h
      · replace h := h.2.2.2.2.2.2.2.2.2.2.2.2.2.2.2.2.2.2.2.2.2.2.2.2.2.2.2.2.2.2.2.2.1 c
        refine g_tabE (z := 32) zp0 (zf0_0 (k := 33) rfl) c (by decide) rfl ?_
        exact g_weak (ls' := [zR 0, zR 32, zR 81, zI l3]) ⟨Or.inr rfl, Or.inr rfl, Or.inr rfl, Or.inr rfl, trivial⟩ h
      · replace h := h.2.2.2.2.2.2.2.2.2.2.2.2.2.2.2.2.2.2.2.2.2.2.2.2.2.2.2.2.2.2.2.2.2.1 c
        refine g_tabE (z := 33) zp0 (zf0_0 (k := 33) rfl) c (by decide) rfl ?_
        exact g_weak (ls' := [zR 0, zR 32, zR 81, zI l3]) ⟨Or.inr rfl, Or.inr rfl, Or.inr rfl, Or.inr rfl, trivial⟩ h
      · replace h := h.2.2.2.2.2.2.2.2.2.2.2.2.2.2.2.2.2.2.2.2.2.2.2.2.2.2.2.2.2.2.2.2.2.2.1 c
        refine g_tabE (z := 34) zp0 (zf0_0 (k := 33) rfl) c (by decide) rfl ?_
        exact g_weak (ls' := [zR 0, zR 32, zR 81, zI l3]) ⟨Or.inr rfl, Or.inr rfl, Or.inr rfl, Or.inr rfl, trivial⟩ h
      · replace h := h.2.2.2.2.2.2.2.2.2.2.2.2.2.2.2.2.2.2.2.2.2.2.2.2.2.2.2.2.2.2.2.2.2.2.2.1 c
        refine g_tabE (z := 35) zp0 (zf0_0 (k := 33) rfl) c (by decide) rfl ?_
        exact g_weak (ls' := [zR 0, zR 32, zR 81, zI l3]) ⟨Or.inr rfl, Or.inr rfl, Or.inr rfl, Or.inr rfl, trivial⟩ h
      · replace h := h.2.2.2.2.2.2.2.2.2.2.2.2.2.2.2.2.2.2.2.2.2.2.2.2.2.2.2.2.2.2.2.2.2.2.2.2.1 c
        refine g_tabE (z := 36) zp0 (zf0_0 (k := 33) rfl) c (by decide) rfl ?_
        exact g_weak (ls' := [zR 0, zR 32, zR 81, zI l3]) ⟨Or.inr rfl, Or.inr rfl, Or.inr rfl, Or.inr rfl, trivial⟩ h
      · replace h := h.2.2.2.2.2.2.2.2.2.2.2.2.2.2.2.2.2.2.2.2.2.2.2.2.2.2.2.2.2.2.2.2.2.2.2.2.2.1 c
        refine g_tabE (z := 37) zp0 (zf0_0 (k := 33) rfl) c (by decide) rfl ?_
        exact g_weak (ls' := [zR 0, zR 32, zR 81, zI l3]) ⟨Or.inr rfl, Or.inr rfl, Or.inr rfl, Or.inr rfl, trivial⟩ h
      · replace h := h.2.2.2.2.2.2.2.2.2.2.2.2.2.2.2.2.2.2.2.2.2.2.2.2.2.2.2.2.2.2.2.2.2.2.2.2.2.2.1 c
        refine g_tabE (z := 38) zp0 (zf0_0 (k := 33) rfl) c (by decide) rfl ?_
        exact g_weak (ls' := [zR 0, zR 32, zR 81, zI l3]) ⟨Or.inr rfl, Or.inr rfl, Or.inr rfl, Or.inr rfl, trivial⟩ h
      · replace h := h.2.2.2.2.2.2.2.2.2.2.2.2.2.2.2.2.2.2.2.2.2.2.2.2.2.2.2.2.2.2.2.2.2.2.2.2.2.2.2.1 c
        refine g_tabE (z := 39) zp0 (zf0_0 (k := 33) rfl) c (by decide) rfl ?_
        exact g_weak (ls' := [zR 0, zR 32, zR 81, zI l3]) ⟨Or.inr rfl, Or.inr rfl, Or.inr rfl, Or.inr rfl, trivial⟩ h
      · replace h := h.2.2.2.2.2.2.2.2.2.2.2.2.2.2.2.2.2.2.2.2.2.2.2.2.2.2.2.2.2.2.2.2.2.2.2.2.2.2.2.2.1 c
        refine g_tabE (z := 40) zp0 (zf0_0 (k := 33) rfl) c (by decide) rfl ?_
        exact g_weak (ls' := [zR 0, zR 32, zR 81, zI l3]) ⟨Or.inr rfl, Or.inr rfl, Or.inr rfl, Or.inr rfl, trivial⟩ h
      · replace h := h.2.2.2.2.2.2.2.2.2.2.2.2.2.2.2.2.2.2.2.2.2.2.2.2.2.2.2.2.2.2.2.2.2.2.2.2.2.2.2.2.2.1 c
        refine g_tabE (z := 41) zp0 (zf0_0 (k := 33) rfl) c (by decide) rfl ?_
        exact g_weak (ls' := [zR 0, zR 32, zR 81, zI l3]) ⟨Or.inr rfl, Or.inr rfl, Or.inr rfl, Or.inr rfl, trivial⟩ h
      · replace h := h.2.2.2.2.2.2.2.2.2.2.2.2.2.2.2.2.2.2.2.2.2.2.2.2.2.2.2.2.2.2.2.2.2.2.2.2.2.2.2.2.2.2.1 c
        refine g_tabE (z := 42) zp0 (zf0_0 (k := 33) rfl) c (by decide) rfl ?_
        exact g_weak (ls' := [zR 0, zR 32, zR 81, zI l3]) ⟨Or.inr rfl, Or.inr rfl, Or.inr rfl, Or.inr rfl, trivial⟩ h
      · replace h := h.2.2.2.2.2.2.2.2.2.2.2.2.2.2.2.2.2.2.2.2.2.2.2.2.2.2.2.2.2.2.2.2.2.2.2.2.2.2.2.2.2.2.2.1 c
        refine g_tabE (z := 43) zp0 (zf0_0 (k := 33) rfl) c (by decide) rfl ?_
        exact g_weak (ls' := [zR 0, zR 32, zR 81, zI l3]) ⟨Or.inr rfl, Or.inr rfl, Or.inr rfl, Or.inr rfl, trivial⟩ h
      · replace h := h.2.2.2.2.2.2.2.2.2.2.2.2.2.2.2.2.2.2.2.2.2.2.2.2.2.2.2.2.2.2.2.2.2.2.2.2.2.2.2.2.2.2.2.2.1 c
        refine g_tabE (z := 44) zp0 (zf0_0 (k := 33) rfl) c (by decide) rfl ?_
        exact g_weak (ls' := [zR 0, zR 32, zR 81, zI l3]) ⟨Or.inr rfl, Or.inr rfl, Or.inr rfl, Or.inr rfl, trivial⟩ h
      · replace h := h.2.2.2.2.2.2.2.2.2.2.2.2.2.2.2.2.2.2.2.2.2.2.2.2.2.2.2.2.2.2.2.2.2.2.2.2.2.2.2.2.2.2.2.2.2.1 c
        refine g_tabE (z := 45) zp0 (zf0_0 (k := 33) rfl) c (by decide) rfl ?_
        exact g_weak (ls' := [zR 0, zR 32, zR 81, zI l3]) ⟨Or.inr rfl, Or.inr rfl, Or.inr rfl, Or.inr rfl, trivial⟩ h
      · replace h := h.2.2.2.2.2.2.2.2.2.2.2.2.2.2.2.2.2.2.2.2.2.2.2.2.2.2.2.2.2.2.2.2.2.2.2.2.2.2.2.2.2.2.2.2.2.2.1 c
        refine g_tabE (z := 46) zp0 (zf0_0 (k := 33) rfl) c (by decide) rfl ?_
        exact g_weak (ls' := [zR 0, zR 32, zR 81, zI l3]) ⟨Or.inr rfl, Or.inr rfl, Or.inr rfl, Or.inr rfl, trivial⟩ h
      · replace h := h.2.2.2.2.2.2.2.2.2.2.2.2.2.2.2.2.2.2.2.2.2.2.2.2.2.2.2.2.2.2.2.2.2.2.2.2.2.2.2.2.2.2.2.2.2.2.2.1 c
        refine g_tabE (z := 47) zp0 (zf0_0 (k := 33) rfl) c (by decide) rfl ?_
        exact g_weak (ls' := [zR 0, zR 32, zR 81, zI l3]) ⟨Or.inr rfl, Or.inr rfl, Or.inr rfl, Or.inr rfl, trivial⟩ h
      · replace h := h.2.2.2.2.2.2.2.2.2.2.2.2.2.2.2.2.2.2.2.2.2.2.2.2.2.2.2.2.2.2.2.2.2.2.2.2.2.2.2.2.2.2.2.2.2.2.2.2.1 c
        refine g_tabE (z := 48) zp0 (zf0_0 (k := 33) rfl) c (by decide) rfl ?_
        exact g_weak (ls' := [zR 0, zR 32, zR 81, zI l3]) ⟨Or.inr rfl, Or.inr rfl, Or.inr rfl, Or.inr rfl, trivial⟩ h
      · replace h := h.2.2.2.2.2.2.2.2.2.2.2.2.2.2.2.2.2.2.2.2.2.2.2.2.2.2.2.2.2.2.2.2.2.2.2.2.2.2.2.2.2.2.2.2.2.2.2.2.2.1 c
        refine g_tabE (z := 49) zp0 (zf0_0 (k := 33) rfl) c (by decide) rfl ?_
        exact g_weak (ls' := [zR 0, zR 32, zR 81, zI l3]) ⟨Or.inr rfl, Or.inr rfl, Or.inr rfl, Or.inr rfl, trivial⟩ h
      · replace h := h.2.2.2.2.2.2.2.2.2.2.2.2.2.2.2.2.2.2.2.2.2.2.2.2.2.2.2.2.2.2.2.2.2.2.2.2.2.2.2.2.2.2.2.2.2.2.2.2.2.2.1 c
        refine g_tabE (z := 50) zp0 (zf0_0 (k := 33) rfl) c (by decide) rfl ?_
        exact g_weak (ls' := [zR 0, zR 32, zR 81, zI l3]) ⟨Or.inr rfl, Or.inr rfl, Or.inr rfl, Or.inr rfl, trivial⟩ h
      · replace h := h.2.2.2.2.2.2.2.2.2.2.2.2.2.2.2.2.2.2.2.2.2.2.2.2.2.2.2.2.2.2.2.2.2.2.2.2.2.2.2.2.2.2.2.2.2.2.2.2.2.2.2.1 c
        refine g_tabE (z := 51) zp0 (zf0_0 (k := 33) rfl) c (by decide) rfl ?_
        exact g_weak (ls' := [zR 0, zR 32, zR 81, zI l3]) ⟨Or.inr rfl, Or.inr rfl, Or.inr rfl, Or.inr rfl, trivial⟩ h
      · replace h := h.2.2.2.2.2.2.2.2.2.2.2.2.2.2.2.2.2.2.2.2.2.2.2.2.2.2.2.2.2.2.2.2.2.2.2.2.2.2.2.2.2.2.2.2.2.2.2.2.2.2.2.2.1 c
        refine g_tabE (z := 52) zp0 (zf0_0 (k := 33) rfl) c (by decide) rfl ?_
        exact g_weak (ls' := [zR 0, zR 32, zR 81, zI l3]) ⟨Or.inr rfl, Or.inr rfl, Or.inr rfl, Or.inr rfl, trivial⟩ h
      · replace h := h.2.2.2.2.2.2.2.2.2.2.2.2.2.2.2.2.2.2.2.2.2.2.2.2.2.2.2.2.2.2.2.2.2.2.2.2.2.2.2.2.2.2.2.2.2.2.2.2.2.2.2.2.2.1 c
        refine g_tabE (z := 53) zp0 (zf0_0 (k := 33) rfl) c (by decide) rfl ?_
        exact g_weak (ls' := [zR 0, zR 32, zR 81, zI l3]) ⟨Or.inr rfl, Or.inr rfl, Or.inr rfl, Or.inr rfl, trivial⟩ h
      · replace h := h.2.2.2.2.2.2.2.2.2.2.2.2.2.2.2.2.2.2.2.2.2.2.2.2.2.2.2.2.2.2.2.2.2.2.2.2.2.2.2.2.2.2.2.2.2.2.2.2.2.2.2.2.2.2.1 c
        refine g_tabE (z := 54) zp0 (zf0_0 (k := 33) rfl) c (by decide) rfl ?_
        exact g_weak (ls' := [zR 0, zR 32, zR 81, zI l3]) ⟨Or.inr rfl, Or.inr rfl, Or.inr rfl, Or.inr rfl, trivial⟩ h
      · replace h := h.2.2.2.2.2.2.2.2.2.2.2.2.2.2.2.2.2.2.2.2.2.2.2.2.2.2.2.2.2.2.2.2.2.2.2.2.2.2.2.2.2.2.2.2.2.2.2.2.2.2.2.2.2.2.2.1 c
        refine g_tabE (z := 55) zp0 (zf0_0 (k := 33) rfl) c (by decide) rfl ?_
        exact g_weak (ls' := [zR 0, zR 32, zR 81, zI l3]) ⟨Or.inr rfl, Or.inr rfl, Or.inr rfl, Or.inr rfl, trivial⟩ h
      · replace h := h.2.2.2.2.2.2.2.2.2.2.2.2.2.2.2.2.2.2.2.2.2.2.2.2.2.2.2.2.2.2.2.2.2.2.2.2.2.2.2.2.2.2.2.2.2.2.2.2.2.2.2.2.2.2.2.2.1 c
        refine g_tabE (z := 56) zp0 (zf0_0 (k := 33) rfl) c (by decide) rfl ?_
        exact g_weak (ls' := [zR 0, zR 32, zR 81, zI l3]) ⟨Or.inr rfl, Or.inr rfl, Or.inr rfl, Or.inr rfl, trivial⟩ h
      · replace h := h.2.2.2.2.2.2.2.2.2.2.2.2.2.2.2.2.2.2.2.2.2.2.2.2.2.2.2.2.2.2.2.2.2.2.2.2.2.2.2.2.2.2.2.2.2.2.2.2.2.2.2.2.2.2.2.2.2 c
        refine g_tabE (z := 57) zp0 (zf0_0 (k := 33) rfl) c (by decide) rfl ?_
        exact g_weak (ls' := [zR 0, zR 32, zR 81, zI l3]) ⟨Or.inr rfl, Or.inr rfl, Or.inr rfl, Or.inr rfl, trivial⟩ h
set_option maxRecDepth 40000 in
theorem x0_280 {w : zWt} {d : Nat} {H : zHt} {K : Int → zHt → Prop} {l3 : Int}
    (h : zclI w d 9 [zR 32] H (fun x2 H1 => zclI w d 171 [zR 81] H1 (fun x4 H3 => (x2 = x4 → zgo w (d + 1) 0 2245 [zR 0, zR 32, zR 81, zI l3] [] H3 (zQI K)) ∧ (¬ x2 = x4 → K 0 H3)))) :
    zgo w (d + 1) 0 280 [zR 0, zR 32, zR 81, zI l3] [] H (zQI K) := by
  refine g_al zp0 (zf0_3 (k := 10) rfl) rfl rfl (by decide) ?_
  refine g_callI (as := [zR 32]) (rest := []) zp0 (zf0_3 (k := 11) rfl) rfl (Nat.succ_pos _) rfl rfl (Nat.le_of_ble_eq_true rfl) (Nat.le_of_ble_eq_true rfl) rfl rfl h (fun x2 H1 h => ?_)
  refine g_al zp0 (zf0_3 (k := 14) rfl) rfl rfl (by decide) ?_
  refine g_callI (as := [zR 81]) (rest := [zI x2]) zp0 (zf0_3 (k := 15) rfl) rfl (Nat.succ_pos _) rfl rfl (Nat.le_of_ble_eq_true rfl) (Nat.le_of_ble_eq_true rfl) rfl rfl h (fun x4 H3 h => ?_)
  refine g_icmp zp0 (zf0_3 (k := 18) rfl) rfl zc0 (fun c5 => ?_) (fun c5 => ?_)
  · replace h := h.1 c5
    exact g_weak (ls' := [zR 0, zR 32, zR 81, zI l3]) ⟨Or.inr rfl, Or.inr rfl, Or.inr rfl, Or.inr rfl, trivial⟩ h
  · replace h := h.2 c5
    refine g_ic zp0 (zf0_3 (k := 21) rfl) rfl ?_
    exact g_ret zp0 (zf0_3 (k := 22) rfl) (zret_b (by decide)) ⟨_, rfl, h⟩
set_option maxRecDepth 40000 in
theorem x0_293 {w : zWt} {d : Nat} {H : zHt} {K : Int → zHt → Prop} {l3 : Int}
    (h : (0 ≤ (w32 (l3 + 1)) ∧ (w32 (l3 + 1)) < (w.1 : Int)) ∧ (0 ≤ (w32 (l3 + 2)) ∧ (w32 (l3 + 2)) < (w.1 : Int)) ∧ (0 ≤ (w32 (l3 + 3)) ∧ (w32 (l3 + 3)) < (w.1 : Int)) ∧ (0 ≤ (w32 (l3 + 4)) ∧ (w32 (l3 + 4)) < (w.1 : Int)) ∧ (0 ≤ (w32 (l3 + 5)) ∧ (w32 (l3 + 5)) < (w.1 : Int)) ∧ zclI w d 10 [zR 32, zI (zH0 w.2 0 (w32 (l3 + 1))), zI (zH0 w.2 0 (w32 (l3 + 2))), zI (zH0 w.2 0 (w32 (l3 + 3))), zI (zH0 w.2 0 (w32 (l3 + 4))), zI (zH0 w.2 0 (w32 (l3 + 5)))] H (fun x7 H6 => zclI w d 275 [zR 81, zI (zH0 w.2 0 (w32 (l3 + 1))), zI (zH0 w.2 0 (w32 (l3 + 2))), zI (zH0 w.2 0 (w32 (l3 + 3))), zI (zH0 w.2 0 (w32 (l3 + 4))), zI (zH0 w.2 0 (w32 (l3 + 5)))] H6 (fun x9 H8 => (x7 = x9 → zgo w (d + 1) 0 2245 [zR 0, zR 32, zR 81, zI l3] [] H8 (zQI K)) ∧ (¬ x7 = x9 → K 0 H8)))) :
    zgo w (d + 1) 0 293 [zR 0, zR 32, zR 81, zI l3] [] H (zQI K) := by
  refine g_al zp0 (zf0_3 (k := 23) rfl) rfl rfl (by decide) ?_
  refine g_al zp0 (zf0_3 (k := 24) rfl) rfl rfl (by decide) ?_
  refine g_il zp0 (zf0_3 (k := 25) rfl) rfl rfl ?_
  refine g_ic zp0 (zf0_3 (k := 26) rfl) rfl ?_
  refine g_ar (r := w32 (l3 + 1)) zp0 (zf0_3 (k := 27) rfl) rfl rfl ?_
  obtain ⟨c1, h⟩ := h
  refine g_ald (v := zI (zH0 w.2 0 (w32 (l3 + 1)))) zp0 (zf0_3 (k := 28) rfl) rfl rfl rfl c1 rfl ?_
  refine g_al zp0 (zf0_3 (k := 29) rfl) rfl rfl (by decide) ?_
  refine g_il zp0 (zf0_3 (k := 30) rfl) rfl rfl ?_
  refine g_ic zp0 (zf0_3 (k := 31) rfl) rfl ?_
  refine g_ar (r := w32 (l3 + 2)) zp0 (zf0_3 (k := 32) rfl) rfl rfl ?_
  obtain ⟨c2, h⟩ := h
  refine g_ald (v := zI (zH0 w.2 0 (w32 (l3 + 2)))) zp0 (zf0_3 (k := 33) rfl) rfl rfl rfl c2 rfl ?_
  refine g_al zp0 (zf0_3 (k := 34) rfl) rfl rfl (by decide) ?_
  refine g_il zp0 (zf0_3 (k := 35) rfl) rfl rfl ?_
  refine g_ic zp0 (zf0_3 (k := 36) rfl) rfl ?_
  refine g_ar (r := w32 (l3 + 3)) zp0 (zf0_3 (k := 37) rfl) rfl rfl ?_
  obtain ⟨c3, h⟩ := h
  refine g_ald (v := zI (zH0 w.2 0 (w32 (l3 + 3)))) zp0 (zf0_3 (k := 38) rfl) rfl rfl rfl c3 rfl ?_
  refine g_al zp0 (zf0_3 (k := 39) rfl) rfl rfl (by decide) ?_
  refine g_il zp0 (zf0_3 (k := 40) rfl) rfl rfl ?_
  refine g_ic zp0 (zf0_3 (k := 41) rfl) rfl ?_
  refine g_ar (r := w32 (l3 + 4)) zp0 (zf0_3 (k := 42) rfl) rfl rfl ?_
  obtain ⟨c4, h⟩ := h
  refine g_ald (v := zI (zH0 w.2 0 (w32 (l3 + 4)))) zp0 (zf0_3 (k := 43) rfl) rfl rfl rfl c4 rfl ?_
  refine g_al zp0 (zf0_3 (k := 44) rfl) rfl rfl (by decide) ?_
  refine g_il zp0 (zf0_3 (k := 45) rfl) rfl rfl ?_
  refine g_ic zp0 (zf0_3 (k := 46) rfl) rfl ?_
  refine g_ar (r := w32 (l3 + 5)) zp0 (zf0_3 (k := 47) rfl) rfl rfl ?_
  obtain ⟨c5, h⟩ := h
  refine g_ald (v := zI (zH0 w.2 0 (w32 (l3 + 5)))) zp0 (zf0_3 (k := 48) rfl) rfl rfl rfl c5 rfl ?_
  refine g_callI (as := [zR 32, zI (zH0 w.2 0 (w32 (l3 + 1))), zI (zH0 w.2 0 (w32 (l3 + 2))), zI (zH0 w.2 0 (w32 (l3 + 3))), zI (zH0 w.2 0 (w32 (l3 + 4))), zI (zH0 w.2 0 (w32 (l3 + 5)))]) (rest := []) zp0 (zf0_3 (k := 49) rfl) rfl (Nat.succ_pos _) rfl rfl (Nat.le_of_ble_eq_true rfl) (Nat.le_of_ble_eq_true rfl) rfl rfl h (fun x7 H6 h => ?_)
  refine g_al zp0 (zf0_3 (k := 52) rfl) rfl rfl (by decide) ?_
  refine g_al zp0 (zf0_3 (k := 53) rfl) rfl rfl (by decide) ?_
  refine g_il zp0 (zf0_3 (k := 54) rfl) rfl rfl ?_
  refine g_ic zp0 (zf0_3 (k := 55) rfl) rfl ?_
  refine g_ar (r := w32 (l3 + 1)) zp0 (zf0_3 (k := 56) rfl) rfl rfl ?_
  refine g_ald (v := zI (zH0 w.2 0 (w32 (l3 + 1)))) zp0 (zf0_3 (k := 57) rfl) rfl rfl rfl c1 rfl ?_
  refine g_al zp0 (zf0_3 (k := 58) rfl) rfl rfl (by decide) ?_
  refine g_il zp0 (zf0_3 (k := 59) rfl) rfl rfl ?_
  refine g_ic zp0 (zf0_3 (k := 60) rfl) rfl ?_
  refine g_ar (r := w32 (l3 + 2)) zp0 (zf0_3 (k := 61) rfl) rfl rfl ?_
  refine g_ald (v := zI (zH0 w.2 0 (w32 (l3 + 2)))) zp0 (zf0_3 (k := 62) rfl) rfl rfl rfl c2 rfl ?_
  refine g_al zp0 (zf0_3 (k := 63) rfl) rfl rfl (by decide) ?_
  refine g_il zp0 (zf0_3 (k := 64) rfl) rfl rfl ?_
  refine g_ic zp0 (zf0_3 (k := 65) rfl) rfl ?_
  refine g_ar (r := w32 (l3 + 3)) zp0 (zf0_3 (k := 66) rfl) rfl rfl ?_
  refine g_ald (v := zI (zH0 w.2 0 (w32 (l3 + 3)))) zp0 (zf0_3 (k := 67) rfl) rfl rfl rfl c3 rfl ?_
  refine g_al zp0 (zf0_3 (k := 68) rfl) rfl rfl (by decide) ?_
  refine g_il zp0 (zf0_3 (k := 69) rfl) rfl rfl ?_
  refine g_ic zp0 (zf0_3 (k := 70) rfl) rfl ?_
  refine g_ar (r := w32 (l3 + 4)) zp0 (zf0_3 (k := 71) rfl) rfl rfl ?_
  refine g_ald (v := zI (zH0 w.2 0 (w32 (l3 + 4)))) zp0 (zf0_3 (k := 72) rfl) rfl rfl rfl c4 rfl ?_
  refine g_al zp0 (zf0_3 (k := 73) rfl) rfl rfl (by decide) ?_
  refine g_il zp0 (zf0_3 (k := 74) rfl) rfl rfl ?_
  refine g_ic zp0 (zf0_3 (k := 75) rfl) rfl ?_
  refine g_ar (r := w32 (l3 + 5)) zp0 (zf0_3 (k := 76) rfl) rfl rfl ?_
  refine g_ald (v := zI (zH0 w.2 0 (w32 (l3 + 5)))) zp0 (zf0_3 (k := 77) rfl) rfl rfl rfl c5 rfl ?_
  refine g_callI (as := [zR 81, zI (zH0 w.2 0 (w32 (l3 + 1))), zI (zH0 w.2 0 (w32 (l3 + 2))), zI (zH0 w.2 0 (w32 (l3 + 3))), zI (zH0 w.2 0 (w32 (l3 + 4))), zI (zH0 w.2 0 (w32 (l3 + 5)))]) (rest := [zI x7]) zp0 (zf0_3 (k := 78) rfl) rfl (Nat.succ_pos _) rfl rfl (Nat.le_of_ble_eq_true rfl) (Nat.le_of_ble_eq_true rfl) rfl rfl h (fun x9 H8 h => ?_)
  refine g_icmp zp0 (zf0_3 (k := 81) rfl) rfl zc0 (fun c10 => ?_) (fun c10 => ?_)
  · replace h := h.1 c10
    exact g_weak (ls' := [zR 0, zR 32, zR 81, zI l3]) ⟨Or.inr rfl, Or.inr rfl, Or.inr rfl, Or.inr rfl, trivial⟩ h
  · replace h := h.2 c10
    refine g_ic zp0 (zf0_3 (k := 84) rfl) rfl ?_
    exact g_ret zp0 (zf0_3 (k := 85) rfl) (zret_b (by decide)) ⟨_, rfl, h⟩
set_option maxRecDepth 40000 in
theorem x0_356 {w : zWt} {d : Nat} {H : zHt} {K : Int → zHt → Prop} {l3 : Int}
    (h : (0 ≤ (w32 (l3 + 1)) ∧ (w32 (l3 + 1)) < (w.1 : Int)) ∧ zclI w d 12 [zR 32, zI (zH0 w.2 0 (w32 (l3 + 1)))] H (fun x3 H2 => zclI w d 277 [zR 81, zI (zH0 w.2 0 (w32 (l3 + 1)))] H2 (fun x5 H4 => (x3 = x5 → zgo w (d + 1) 0 2245 [zR 0, zR 32, zR 81, zI l3] [] H4 (zQI K)) ∧ (¬ x3 = x5 → K 0 H4)))) :
    zgo w (d + 1) 0 356 [zR 0, zR 32, zR 81, zI l3] [] H (zQI K) := by
  refine g_al zp0 (zf0_3 (k := 86) rfl) rfl rfl (by decide) ?_
  refine g_al zp0 (zf0_3 (k := 87) rfl) rfl rfl (by decide) ?_
  refine g_il zp0 (zf0_3 (k := 88) rfl) rfl rfl ?_
  refine g_ic zp0 (zf0_3 (k := 89) rfl) rfl ?_
  refine g_ar (r := w32 (l3 + 1)) zp0 (zf0_4 (k := 0) rfl) rfl rfl ?_
  obtain ⟨c1, h⟩ := h
  refine g_ald (v := zI (zH0 w.2 0 (w32 (l3 + 1)))) zp0 (zf0_4 (k := 1) rfl) rfl rfl rfl c1 rfl ?_
  refine g_callI (as := [zR 32, zI (zH0 w.2 0 (w32 (l3 + 1)))]) (rest := []) zp0 (zf0_4 (k := 2) rfl) rfl (Nat.succ_pos _) rfl rfl (Nat.le_of_ble_eq_true rfl) (Nat.le_of_ble_eq_true rfl) rfl rfl h (fun x3 H2 h => ?_)
  refine g_al zp0 (zf0_4 (k := 5) rfl) rfl rfl (by decide) ?_
  refine g_al zp0 (zf0_4 (k := 6) rfl) rfl rfl (by decide) ?_
  refine g_il zp0 (zf0_4 (k := 7) rfl) rfl rfl ?_
  refine g_ic zp0 (zf0_4 (k := 8) rfl) rfl ?_
  refine g_ar (r := w32 (l3 + 1)) zp0 (zf0_4 (k := 9) rfl) rfl rfl ?_
  refine g_ald (v := zI (zH0 w.2 0 (w32 (l3 + 1)))) zp0 (zf0_4 (k := 10) rfl) rfl rfl rfl c1 rfl ?_
  refine g_callI (as := [zR 81, zI (zH0 w.2 0 (w32 (l3 + 1)))]) (rest := [zI x3]) zp0 (zf0_4 (k := 11) rfl) rfl (Nat.succ_pos _) rfl rfl (Nat.le_of_ble_eq_true rfl) (Nat.le_of_ble_eq_true rfl) rfl rfl h (fun x5 H4 h => ?_)
  refine g_icmp zp0 (zf0_4 (k := 14) rfl) rfl zc0 (fun c6 => ?_) (fun c6 => ?_)
  · replace h := h.1 c6
    exact g_weak (ls' := [zR 0, zR 32, zR 81, zI l3]) ⟨Or.inr rfl, Or.inr rfl, Or.inr rfl, Or.inr rfl, trivial⟩ h
  · replace h := h.2 c6
    refine g_ic zp0 (zf0_4 (k := 17) rfl) rfl ?_
    exact g_ret zp0 (zf0_4 (k := 18) rfl) (zret_b (by decide)) ⟨_, rfl, h⟩
set_option maxRecDepth 40000 in
theorem x0_379 {w : zWt} {d : Nat} {H : zHt} {K : Int → zHt → Prop} {l3 : Int}
    (h : (0 ≤ (w32 (l3 + 1)) ∧ (w32 (l3 + 1)) < (w.1 : Int)) ∧ zclI w d 40 [zR 32, zI (zH0 w.2 0 (w32 (l3 + 1)))] H (fun x3 H2 => zclI w d 289 [zR 81, zI (zH0 w.2 0 (w32 (l3 + 1)))] H2 (fun x5 H4 => (x3 = x5 → zgo w (d + 1) 0 2245 [zR 0, zR 32, zR 81, zI l3] [] H4 (zQI K)) ∧ (¬ x3 = x5 → K 0 H4)))) :
    zgo w (d + 1) 0 379 [zR 0, zR 32, zR 81, zI l3] [] H (zQI K) := by
  refine g_al zp0 (zf0_4 (k := 19) rfl) rfl rfl (by decide) ?_
  refine g_al zp0 (zf0_4 (k := 20) rfl) rfl rfl (by decide) ?_
  refine g_il zp0 (zf0_4 (k := 21) rfl) rfl rfl ?_
  refine g_ic zp0 (zf0_4 (k := 22) rfl) rfl ?_
  refine g_ar (r := w32 (l3 + 1)) zp0 (zf0_4 (k := 23) rfl) rfl rfl ?_
  obtain ⟨c1, h⟩ := h
  refine g_ald (v := zI (zH0 w.2 0 (w32 (l3 + 1)))) zp0 (zf0_4 (k := 24) rfl) rfl rfl rfl c1 rfl ?_
  refine g_callI (as := [zR 32, zI (zH0 w.2 0 (w32 (l3 + 1)))]) (rest := []) zp0 (zf0_4 (k := 25) rfl) rfl (Nat.succ_pos _) rfl rfl (Nat.le_of_ble_eq_true rfl) (Nat.le_of_ble_eq_true rfl) rfl rfl h (fun x3 H2 h => ?_)
  refine g_al zp0 (zf0_4 (k := 28) rfl) rfl rfl (by decide) ?_
  refine g_al zp0 (zf0_4 (k := 29) rfl) rfl rfl (by decide) ?_
  refine g_il zp0 (zf0_4 (k := 30) rfl) rfl rfl ?_
  refine g_ic zp0 (zf0_4 (k := 31) rfl) rfl ?_
  refine g_ar (r := w32 (l3 + 1)) zp0 (zf0_4 (k := 32) rfl) rfl rfl ?_
  refine g_ald (v := zI (zH0 w.2 0 (w32 (l3 + 1)))) zp0 (zf0_4 (k := 33) rfl) rfl rfl rfl c1 rfl ?_
  refine g_callI (as := [zR 81, zI (zH0 w.2 0 (w32 (l3 + 1)))]) (rest := [zI x3]) zp0 (zf0_4 (k := 34) rfl) rfl (Nat.succ_pos _) rfl rfl (Nat.le_of_ble_eq_true rfl) (Nat.le_of_ble_eq_true rfl) rfl rfl h (fun x5 H4 h => ?_)
  refine g_icmp zp0 (zf0_4 (k := 37) rfl) rfl zc0 (fun c6 => ?_) (fun c6 => ?_)
  · replace h := h.1 c6
    exact g_weak (ls' := [zR 0, zR 32, zR 81, zI l3]) ⟨Or.inr rfl, Or.inr rfl, Or.inr rfl, Or.inr rfl, trivial⟩ h
  · replace h := h.2 c6
    refine g_ic zp0 (zf0_4 (k := 40) rfl) rfl ?_
    exact g_ret zp0 (zf0_4 (k := 41) rfl) (zret_b (by decide)) ⟨_, rfl, h⟩
set_option maxRecDepth 40000 in
theorem x0_402 {w : zWt} {d : Nat} {H : zHt} {K : Int → zHt → Prop} {l3 : Int}
    (h : (0 ≤ (w32 (l3 + 1)) ∧ (w32 (l3 + 1)) < (w.1 : Int)) ∧ zclI w d 41 [zR 32, zI (zH0 w.2 0 (w32 (l3 + 1)))] H (fun x3 H2 => zclI w d 172 [zR 81, zI (zH0 w.2 0 (w32 (l3 + 1)))] H2 (fun x5 H4 => (x3 = x5 → zgo w (d + 1) 0 2245 [zR 0, zR 32, zR 81, zI l3] [] H4 (zQI K)) ∧ (¬ x3 = x5 → K 0 H4)))) :
    zgo w (d + 1) 0 402 [zR 0, zR 32, zR 81, zI l3] [] H (zQI K) := by
  refine g_al zp0 (zf0_4 (k := 42) rfl) rfl rfl (by decide) ?_
  refine g_al zp0 (zf0_4 (k := 43) rfl) rfl rfl (by decide) ?_
  refine g_il zp0 (zf0_4 (k := 44) rfl) rfl rfl ?_
  refine g_ic zp0 (zf0_4 (k := 45) rfl) rfl ?_
  refine g_ar (r := w32 (l3 + 1)) zp0 (zf0_4 (k := 46) rfl) rfl rfl ?_
  obtain ⟨c1, h⟩ := h
  refine g_ald (v := zI (zH0 w.2 0 (w32 (l3 + 1)))) zp0 (zf0_4 (k := 47) rfl) rfl rfl rfl c1 rfl ?_
  refine g_callI (as := [zR 32, zI (zH0 w.2 0 (w32 (l3 + 1)))]) (rest := []) zp0 (zf0_4 (k := 48) rfl) rfl (Nat.succ_pos _) rfl rfl (Nat.le_of_ble_eq_true rfl) (Nat.le_of_ble_eq_true rfl) rfl rfl h (fun x3 H2 h => ?_)
  refine g_al zp0 (zf0_4 (k := 51) rfl) rfl rfl (by decide) ?_
  refine g_al zp0 (zf0_4 (k := 52) rfl) rfl rfl (by decide) ?_
  refine g_il zp0 (zf0_4 (k := 53) rfl) rfl rfl ?_
  refine g_ic zp0 (zf0_4 (k := 54) rfl) rfl ?_
  refine g_ar (r := w32 (l3 + 1)) zp0 (zf0_4 (k := 55) rfl) rfl rfl ?_
  refine g_ald (v := zI (zH0 w.2 0 (w32 (l3 + 1)))) zp0 (zf0_4 (k := 56) rfl) rfl rfl rfl c1 rfl ?_
  refine g_callI (as := [zR 81, zI (zH0 w.2 0 (w32 (l3 + 1)))]) (rest := [zI x3]) zp0 (zf0_4 (k := 57) rfl) rfl (Nat.succ_pos _) rfl rfl (Nat.le_of_ble_eq_true rfl) (Nat.le_of_ble_eq_true rfl) rfl rfl h (fun x5 H4 h => ?_)
  refine g_icmp zp0 (zf0_4 (k := 60) rfl) rfl zc0 (fun c6 => ?_) (fun c6 => ?_)
  · replace h := h.1 c6
    exact g_weak (ls' := [zR 0, zR 32, zR 81, zI l3]) ⟨Or.inr rfl, Or.inr rfl, Or.inr rfl, Or.inr rfl, trivial⟩ h
  · replace h := h.2 c6
    refine g_ic zp0 (zf0_4 (k := 63) rfl) rfl ?_
    exact g_ret zp0 (zf0_4 (k := 64) rfl) (zret_b (by decide)) ⟨_, rfl, h⟩
set_option maxRecDepth 40000 in
theorem x0_425 {w : zWt} {d : Nat} {H : zHt} {K : Int → zHt → Prop} {l3 : Int}
    (h : (0 ≤ (w32 (l3 + 1)) ∧ (w32 (l3 + 1)) < (w.1 : Int)) ∧ (0 ≤ (w32 (l3 + 2)) ∧ (w32 (l3 + 2)) < (w.1 : Int)) ∧ (0 ≤ (w32 (l3 + 3)) ∧ (w32 (l3 + 3)) < (w.1 : Int)) ∧ zclI w d 42 [zR 32, zI (zH0 w.2 0 (w32 (l3 + 1))), zI (zH0 w.2 0 (w32 (l3 + 2))), zI (zH0 w.2 0 (w32 (l3 + 3)))] H (fun x5 H4 => zclI w d 175 [zR 81, zI (zH0 w.2 0 (w32 (l3 + 1))), zI (zH0 w.2 0 (w32 (l3 + 2))), zI (zH0 w.2 0 (w32 (l3 + 3)))] H4 (fun x7 H6 => (x5 = x7 → zgo w (d + 1) 0 2245 [zR 0, zR 32, zR 81, zI l3] [] H6 (zQI K)) ∧ (¬ x5 = x7 → K 0 H6)))) :
    zgo w (d + 1) 0 425 [zR 0, zR 32, zR 81, zI l3] [] H (zQI K) := by
  refine g_al zp0 (zf0_4 (k := 65) rfl) rfl rfl (by decide) ?_
  refine g_al zp0 (zf0_4 (k := 66) rfl) rfl rfl (by decide) ?_
  refine g_il zp0 (zf0_4 (k := 67) rfl) rfl rfl ?_
  refine g_ic zp0 (zf0_4 (k := 68) rfl) rfl ?_
  refine g_ar (r := w32 (l3 + 1)) zp0 (zf0_4 (k := 69) rfl) rfl rfl ?_
  obtain ⟨c1, h⟩ := h
  refine g_ald (v := zI (zH0 w.2 0 (w32 (l3 + 1)))) zp0 (zf0_4 (k := 70) rfl) rfl rfl rfl c1 rfl ?_
  refine g_al zp0 (zf0_4 (k := 71) rfl) rfl rfl (by decide) ?_
  refine g_il zp0 (zf0_4 (k := 72) rfl) rfl rfl ?_
  refine g_ic zp0 (zf0_4 (k := 73) rfl) rfl ?_
  refine g_ar (r := w32 (l3 + 2)) zp0 (zf0_4 (k := 74) rfl) rfl rfl ?_
  obtain ⟨c2, h⟩ := h
  refine g_ald (v := zI (zH0 w.2 0 (w32 (l3 + 2)))) zp0 (zf0_4 (k := 75) rfl) rfl rfl rfl c2 rfl ?_
  refine g_al zp0 (zf0_4 (k := 76) rfl) rfl rfl (by decide) ?_
  refine g_il zp0 (zf0_4 (k := 77) rfl) rfl rfl ?_
  refine g_ic zp0 (zf0_4 (k := 78) rfl) rfl ?_
  refine g_ar (r := w32 (l3 + 3)) zp0 (zf0_4 (k := 79) rfl) rfl rfl ?_
  obtain ⟨c3, h⟩ := h
  refine g_ald (v := zI (zH0 w.2 0 (w32 (l3 + 3)))) zp0 (zf0_4 (k := 80) rfl) rfl rfl rfl c3 rfl ?_
  refine g_callI (as := [zR 32, zI (zH0 w.2 0 (w32 (l3 + 1))), zI (zH0 w.2 0 (w32 (l3 + 2))), zI (zH0 w.2 0 (w32 (l3 + 3)))]) (rest := []) zp0 (zf0_4 (k := 81) rfl) rfl (Nat.succ_pos _) rfl rfl (Nat.le_of_ble_eq_true rfl) (Nat.le_of_ble_eq_true rfl) rfl rfl h (fun x5 H4 h => ?_)
  refine g_al zp0 (zf0_4 (k := 84) rfl) rfl rfl (by decide) ?_
  refine g_al zp0 (zf0_4 (k := 85) rfl) rfl rfl (by decide) ?_
  refine g_il zp0 (zf0_4 (k := 86) rfl) rfl rfl ?_
  refine g_ic zp0 (zf0_4 (k := 87) rfl) rfl ?_
  refine g_ar (r := w32 (l3 + 1)) zp0 (zf0_4 (k := 88) rfl) rfl rfl ?_
  refine g_ald (v := zI (zH0 w.2 0 (w32 (l3 + 1)))) zp0 (zf0_4 (k := 89) rfl) rfl rfl rfl c1 rfl ?_
  refine g_al zp0 (zf0_5 (k := 0) rfl) rfl rfl (by decide) ?_
  refine g_il zp0 (zf0_5 (k := 1) rfl) rfl rfl ?_
  refine g_ic zp0 (zf0_5 (k := 2) rfl) rfl ?_
  refine g_ar (r := w32 (l3 + 2)) zp0 (zf0_5 (k := 3) rfl) rfl rfl ?_
  refine g_ald (v := zI (zH0 w.2 0 (w32 (l3 + 2)))) zp0 (zf0_5 (k := 4) rfl) rfl rfl rfl c2 rfl ?_
  refine g_al zp0 (zf0_5 (k := 5) rfl) rfl rfl (by decide) ?_
  refine g_il zp0 (zf0_5 (k := 6) rfl) rfl rfl ?_
  refine g_ic zp0 (zf0_5 (k := 7) rfl) rfl ?_
  refine g_ar (r := w32 (l3 + 3)) zp0 (zf0_5 (k := 8) rfl) rfl rfl ?_
  refine g_ald (v := zI (zH0 w.2 0 (w32 (l3 + 3)))) zp0 (zf0_5 (k := 9) rfl) rfl rfl rfl c3 rfl ?_
  refine g_callI (as := [zR 81, zI (zH0 w.2 0 (w32 (l3 + 1))), zI (zH0 w.2 0 (w32 (l3 + 2))), zI (zH0 w.2 0 (w32 (l3 + 3)))]) (rest := [zI x5]) zp0 (zf0_5 (k := 10) rfl) rfl (Nat.succ_pos _) rfl rfl (Nat.le_of_ble_eq_true rfl) (Nat.le_of_ble_eq_true rfl) rfl rfl h (fun x7 H6 h => ?_)
  refine g_icmp zp0 (zf0_5 (k := 13) rfl) rfl zc0 (fun c8 => ?_) (fun c8 => ?_)
  · replace h := h.1 c8
    exact g_weak (ls' := [zR 0, zR 32, zR 81, zI l3]) ⟨Or.inr rfl, Or.inr rfl, Or.inr rfl, Or.inr rfl, trivial⟩ h
  · replace h := h.2 c8
    refine g_ic zp0 (zf0_5 (k := 16) rfl) rfl ?_
    exact g_ret zp0 (zf0_5 (k := 17) rfl) (zret_b (by decide)) ⟨_, rfl, h⟩
set_option maxRecDepth 40000 in
theorem x0_468 {w : zWt} {d : Nat} {H : zHt} {K : Int → zHt → Prop} {l3 : Int}
    (h : (0 ≤ (w32 (l3 + 1)) ∧ (w32 (l3 + 1)) < (w.1 : Int)) ∧ zclL w d 51 [zR 32, zI (zH0 w.2 0 (w32 (l3 + 1)))] H (fun x3 H2 => zclL w d 179 [zR 81, zI (zH0 w.2 0 (w32 (l3 + 1)))] H2 (fun x5 H4 => (x3 = x5 → zgo w (d + 1) 0 2245 [zR 0, zR 32, zR 81, zI l3] [] H4 (zQI K)) ∧ (¬ x3 = x5 → K 0 H4)))) :
    zgo w (d + 1) 0 468 [zR 0, zR 32, zR 81, zI l3] [] H (zQI K) := by
  refine g_al zp0 (zf0_5 (k := 18) rfl) rfl rfl (by decide) ?_
  refine g_al zp0 (zf0_5 (k := 19) rfl) rfl rfl (by decide) ?_
  refine g_il zp0 (zf0_5 (k := 20) rfl) rfl rfl ?_
  refine g_ic zp0 (zf0_5 (k := 21) rfl) rfl ?_
  refine g_ar (r := w32 (l3 + 1)) zp0 (zf0_5 (k := 22) rfl) rfl rfl ?_
  obtain ⟨c1, h⟩ := h
  refine g_ald (v := zI (zH0 w.2 0 (w32 (l3 + 1)))) zp0 (zf0_5 (k := 23) rfl) rfl rfl rfl c1 rfl ?_
  refine g_callL (as := [zR 32, zI (zH0 w.2 0 (w32 (l3 + 1)))]) (rest := []) zp0 (zf0_5 (k := 24) rfl) rfl (Nat.succ_pos _) rfl rfl (Nat.le_of_ble_eq_true rfl) (Nat.le_of_ble_eq_true rfl) rfl rfl h (fun x3 H2 h => ?_)
  refine g_al zp0 (zf0_5 (k := 27) rfl) rfl rfl (by decide) ?_
  refine g_al zp0 (zf0_5 (k := 28) rfl) rfl rfl (by decide) ?_
  refine g_il zp0 (zf0_5 (k := 29) rfl) rfl rfl ?_
  refine g_ic zp0 (zf0_5 (k := 30) rfl) rfl ?_
  refine g_ar (r := w32 (l3 + 1)) zp0 (zf0_5 (k := 31) rfl) rfl rfl ?_
  refine g_ald (v := zI (zH0 w.2 0 (w32 (l3 + 1)))) zp0 (zf0_5 (k := 32) rfl) rfl rfl rfl c1 rfl ?_
  refine g_callL (as := [zR 81, zI (zH0 w.2 0 (w32 (l3 + 1)))]) (rest := [zL x3]) zp0 (zf0_5 (k := 33) rfl) rfl (Nat.succ_pos _) rfl rfl (Nat.le_of_ble_eq_true rfl) (Nat.le_of_ble_eq_true rfl) rfl rfl h (fun x5 H4 h => ?_)
  refine g_lcmp zp0 (zf0_5 (k := 36) rfl) rfl (zf0_5 (k := 37) rfl) rfl zc0 (fun c6 => ?_) (fun c6 => ?_)
  · replace h := h.1 c6
    exact g_weak (ls' := [zR 0, zR 32, zR 81, zI l3]) ⟨Or.inr rfl, Or.inr rfl, Or.inr rfl, Or.inr rfl, trivial⟩ h
  · replace h := h.2 c6
    refine g_ic zp0 (zf0_5 (k := 40) rfl) rfl ?_
    exact g_ret zp0 (zf0_5 (k := 41) rfl) (zret_b (by decide)) ⟨_, rfl, h⟩
set_option maxRecDepth 40000 in
theorem x0_492 {w : zWt} {d : Nat} {H : zHt} {K : Int → zHt → Prop} {l3 : Int}
    (h : (0 ≤ (w32 (l3 + 1)) ∧ (w32 (l3 + 1)) < (w.1 : Int)) ∧ zclI w d 61 [zR 32, zI (zH0 w.2 0 (w32 (l3 + 1)))] H (fun x3 H2 => zclI w d 185 [zR 81, zI (zH0 w.2 0 (w32 (l3 + 1)))] H2 (fun x5 H4 => (x3 = x5 → zgo w (d + 1) 0 2245 [zR 0, zR 32, zR 81, zI l3] [] H4 (zQI K)) ∧ (¬ x3 = x5 → K 0 H4)))) :
    zgo w (d + 1) 0 492 [zR 0, zR 32, zR 81, zI l3] [] H (zQI K) := by
  refine g_al zp0 (zf0_5 (k := 42) rfl) rfl rfl (by decide) ?_
  refine g_al zp0 (zf0_5 (k := 43) rfl) rfl rfl (by decide) ?_
  refine g_il zp0 (zf0_5 (k := 44) rfl) rfl rfl ?_
  refine g_ic zp0 (zf0_5 (k := 45) rfl) rfl ?_
  refine g_ar (r := w32 (l3 + 1)) zp0 (zf0_5 (k := 46) rfl) rfl rfl ?_
  obtain ⟨c1, h⟩ := h
  refine g_ald (v := zI (zH0 w.2 0 (w32 (l3 + 1)))) zp0 (zf0_5 (k := 47) rfl) rfl rfl rfl c1 rfl ?_
  refine g_callI (as := [zR 32, zI (zH0 w.2 0 (w32 (l3 + 1)))]) (rest := []) zp0 (zf0_5 (k := 48) rfl) rfl (Nat.succ_pos _) rfl rfl (Nat.le_of_ble_eq_true rfl) (Nat.le_of_ble_eq_true rfl) rfl rfl h (fun x3 H2 h => ?_)
  refine g_al zp0 (zf0_5 (k := 51) rfl) rfl rfl (by decide) ?_
  refine g_al zp0 (zf0_5 (k := 52) rfl) rfl rfl (by decide) ?_
  refine g_il zp0 (zf0_5 (k := 53) rfl) rfl rfl ?_
  refine g_ic zp0 (zf0_5 (k := 54) rfl) rfl ?_
  refine g_ar (r := w32 (l3 + 1)) zp0 (zf0_5 (k := 55) rfl) rfl rfl ?_
  refine g_ald (v := zI (zH0 w.2 0 (w32 (l3 + 1)))) zp0 (zf0_5 (k := 56) rfl) rfl rfl rfl c1 rfl ?_
  refine g_callI (as := [zR 81, zI (zH0 w.2 0 (w32 (l3 + 1)))]) (rest := [zI x3]) zp0 (zf0_5 (k := 57) rfl) rfl (Nat.succ_pos _) rfl rfl (Nat.le_of_ble_eq_true rfl) (Nat.le_of_ble_eq_true rfl) rfl rfl h (fun x5 H4 h => ?_)
  refine g_icmp zp0 (zf0_5 (k := 60) rfl) rfl zc0 (fun c6 => ?_) (fun c6 => ?_)
  · replace h := h.1 c6
    exact g_weak (ls' := [zR 0, zR 32, zR 81, zI l3]) ⟨Or.inr rfl, Or.inr rfl, Or.inr rfl, Or.inr rfl, trivial⟩ h
  · replace h := h.2 c6
    refine g_ic zp0 (zf0_5 (k := 63) rfl) rfl ?_
    exact g_ret zp0 (zf0_5 (k := 64) rfl) (zret_b (by decide)) ⟨_, rfl, h⟩
set_option maxRecDepth 40000 in
theorem x0_515 {w : zWt} {d : Nat} {H : zHt} {K : Int → zHt → Prop} {l3 : Int}
    (h : (0 ≤ (w32 (l3 + 1)) ∧ (w32 (l3 + 1)) < (w.1 : Int)) ∧ (0 ≤ (w32 (l3 + 2)) ∧ (w32 (l3 + 2)) < (w.1 : Int)) ∧ zclI w d 63 [zR 32, zI (zH0 w.2 0 (w32 (l3 + 1))), zI (zH0 w.2 0 (w32 (l3 + 2)))] H (fun x4 H3 => zclI w d 187 [zR 81, zI (zH0 w.2 0 (w32 (l3 + 1))), zI (zH0 w.2 0 (w32 (l3 + 2)))] H3 (fun x6 H5 => (x4 = x6 → zgo w (d + 1) 0 2245 [zR 0, zR 32, zR 81, zI l3] [] H5 (zQI K)) ∧ (¬ x4 = x6 → K 0 H5)))) :
    zgo w (d + 1) 0 515 [zR 0, zR 32, zR 81, zI l3] [] H (zQI K) := by
  refine g_al zp0 (zf0_5 (k := 65) rfl) rfl rfl (by decide) ?_
  refine g_al zp0 (zf0_5 (k := 66) rfl) rfl rfl (by decide) ?_
  refine g_il zp0 (zf0_5 (k := 67) rfl) rfl rfl ?_
  refine g_ic zp0 (zf0_5 (k := 68) rfl) rfl ?_
  refine g_ar (r := w32 (l3 + 1)) zp0 (zf0_5 (k := 69) rfl) rfl rfl ?_
  obtain ⟨c1, h⟩ := h
  refine g_ald (v := zI (zH0 w.2 0 (w32 (l3 + 1)))) zp0 (zf0_5 (k := 70) rfl) rfl rfl rfl c1 rfl ?_
  refine g_al zp0 (zf0_5 (k := 71) rfl) rfl rfl (by decide) ?_
  refine g_il zp0 (zf0_5 (k := 72) rfl) rfl rfl ?_
  refine g_ic zp0 (zf0_5 (k := 73) rfl) rfl ?_
  refine g_ar (r := w32 (l3 + 2)) zp0 (zf0_5 (k := 74) rfl) rfl rfl ?_
  obtain ⟨c2, h⟩ := h
  refine g_ald (v := zI (zH0 w.2 0 (w32 (l3 + 2)))) zp0 (zf0_5 (k := 75) rfl) rfl rfl rfl c2 rfl ?_
  refine g_callI (as := [zR 32, zI (zH0 w.2 0 (w32 (l3 + 1))), zI (zH0 w.2 0 (w32 (l3 + 2)))]) (rest := []) zp0 (zf0_5 (k := 76) rfl) rfl (Nat.succ_pos _) rfl rfl (Nat.le_of_ble_eq_true rfl) (Nat.le_of_ble_eq_true rfl) rfl rfl h (fun x4 H3 h => ?_)
  refine g_al zp0 (zf0_5 (k := 79) rfl) rfl rfl (by decide) ?_
  refine g_al zp0 (zf0_5 (k := 80) rfl) rfl rfl (by decide) ?_
  refine g_il zp0 (zf0_5 (k := 81) rfl) rfl rfl ?_
  refine g_ic zp0 (zf0_5 (k := 82) rfl) rfl ?_
  refine g_ar (r := w32 (l3 + 1)) zp0 (zf0_5 (k := 83) rfl) rfl rfl ?_
  refine g_ald (v := zI (zH0 w.2 0 (w32 (l3 + 1)))) zp0 (zf0_5 (k := 84) rfl) rfl rfl rfl c1 rfl ?_
  refine g_al zp0 (zf0_5 (k := 85) rfl) rfl rfl (by decide) ?_
  refine g_il zp0 (zf0_5 (k := 86) rfl) rfl rfl ?_
  refine g_ic zp0 (zf0_5 (k := 87) rfl) rfl ?_
  refine g_ar (r := w32 (l3 + 2)) zp0 (zf0_5 (k := 88) rfl) rfl rfl ?_
  refine g_ald (v := zI (zH0 w.2 0 (w32 (l3 + 2)))) zp0 (zf0_5 (k := 89) rfl) rfl rfl rfl c2 rfl ?_
  refine g_callI (as := [zR 81, zI (zH0 w.2 0 (w32 (l3 + 1))), zI (zH0 w.2 0 (w32 (l3 + 2)))]) (rest := [zI x4]) zp0 (zf0_6 (k := 0) rfl) rfl (Nat.succ_pos _) rfl rfl (Nat.le_of_ble_eq_true rfl) (Nat.le_of_ble_eq_true rfl) rfl rfl h (fun x6 H5 h => ?_)
  refine g_icmp zp0 (zf0_6 (k := 3) rfl) rfl zc0 (fun c7 => ?_) (fun c7 => ?_)
  · replace h := h.1 c7
    exact g_weak (ls' := [zR 0, zR 32, zR 81, zI l3]) ⟨Or.inr rfl, Or.inr rfl, Or.inr rfl, Or.inr rfl, trivial⟩ h
  · replace h := h.2 c7
    refine g_ic zp0 (zf0_6 (k := 6) rfl) rfl ?_
    exact g_ret zp0 (zf0_6 (k := 7) rfl) (zret_b (by decide)) ⟨_, rfl, h⟩
set_option maxRecDepth 40000 in
theorem x0_548 {w : zWt} {d : Nat} {H : zHt} {K : Int → zHt → Prop} {l3 : Int}
    (h : (0 ≤ (w32 (l3 + 1)) ∧ (w32 (l3 + 1)) < (w.1 : Int)) ∧ (0 ≤ (w32 (l3 + 2)) ∧ (w32 (l3 + 2)) < (w.1 : Int)) ∧ zclI w d 70 [zR 32, zI (zH0 w.2 0 (w32 (l3 + 1))), zI (zH0 w.2 0 (w32 (l3 + 2)))] H (fun x4 H3 => zclI w d 192 [zR 81, zI (zH0 w.2 0 (w32 (l3 + 1))), zI (zH0 w.2 0 (w32 (l3 + 2)))] H3 (fun x6 H5 => (x4 = x6 → zgo w (d + 1) 0 2245 [zR 0, zR 32, zR 81, zI l3] [] H5 (zQI K)) ∧ (¬ x4 = x6 → K 0 H5)))) :
    zgo w (d + 1) 0 548 [zR 0, zR 32, zR 81, zI l3] [] H (zQI K) := by
  refine g_al zp0 (zf0_6 (k := 8) rfl) rfl rfl (by decide) ?_
  refine g_al zp0 (zf0_6 (k := 9) rfl) rfl rfl (by decide) ?_
  refine g_il zp0 (zf0_6 (k := 10) rfl) rfl rfl ?_
  refine g_ic zp0 (zf0_6 (k := 11) rfl) rfl ?_
  refine g_ar (r := w32 (l3 + 1)) zp0 (zf0_6 (k := 12) rfl) rfl rfl ?_
  obtain ⟨c1, h⟩ := h
  refine g_ald (v := zI (zH0 w.2 0 (w32 (l3 + 1)))) zp0 (zf0_6 (k := 13) rfl) rfl rfl rfl c1 rfl ?_
  refine g_al zp0 (zf0_6 (k := 14) rfl) rfl rfl (by decide) ?_
  refine g_il zp0 (zf0_6 (k := 15) rfl) rfl rfl ?_
  refine g_ic zp0 (zf0_6 (k := 16) rfl) rfl ?_
  refine g_ar (r := w32 (l3 + 2)) zp0 (zf0_6 (k := 17) rfl) rfl rfl ?_
  obtain ⟨c2, h⟩ := h
  refine g_ald (v := zI (zH0 w.2 0 (w32 (l3 + 2)))) zp0 (zf0_6 (k := 18) rfl) rfl rfl rfl c2 rfl ?_
  refine g_callI (as := [zR 32, zI (zH0 w.2 0 (w32 (l3 + 1))), zI (zH0 w.2 0 (w32 (l3 + 2)))]) (rest := []) zp0 (zf0_6 (k := 19) rfl) rfl (Nat.succ_pos _) rfl rfl (Nat.le_of_ble_eq_true rfl) (Nat.le_of_ble_eq_true rfl) rfl rfl h (fun x4 H3 h => ?_)
  refine g_al zp0 (zf0_6 (k := 22) rfl) rfl rfl (by decide) ?_
  refine g_al zp0 (zf0_6 (k := 23) rfl) rfl rfl (by decide) ?_
  refine g_il zp0 (zf0_6 (k := 24) rfl) rfl rfl ?_
  refine g_ic zp0 (zf0_6 (k := 25) rfl) rfl ?_
  refine g_ar (r := w32 (l3 + 1)) zp0 (zf0_6 (k := 26) rfl) rfl rfl ?_
  refine g_ald (v := zI (zH0 w.2 0 (w32 (l3 + 1)))) zp0 (zf0_6 (k := 27) rfl) rfl rfl rfl c1 rfl ?_
  refine g_al zp0 (zf0_6 (k := 28) rfl) rfl rfl (by decide) ?_
  refine g_il zp0 (zf0_6 (k := 29) rfl) rfl rfl ?_
  refine g_ic zp0 (zf0_6 (k := 30) rfl) rfl ?_
  refine g_ar (r := w32 (l3 + 2)) zp0 (zf0_6 (k := 31) rfl) rfl rfl ?_
  refine g_ald (v := zI (zH0 w.2 0 (w32 (l3 + 2)))) zp0 (zf0_6 (k := 32) rfl) rfl rfl rfl c2 rfl ?_
  refine g_callI (as := [zR 81, zI (zH0 w.2 0 (w32 (l3 + 1))), zI (zH0 w.2 0 (w32 (l3 + 2)))]) (rest := [zI x4]) zp0 (zf0_6 (k := 33) rfl) rfl (Nat.succ_pos _) rfl rfl (Nat.le_of_ble_eq_true rfl) (Nat.le_of_ble_eq_true rfl) rfl rfl h (fun x6 H5 h => ?_)
  refine g_icmp zp0 (zf0_6 (k := 36) rfl) rfl zc0 (fun c7 => ?_) (fun c7 => ?_)
  · replace h := h.1 c7
    exact g_weak (ls' := [zR 0, zR 32, zR 81, zI l3]) ⟨Or.inr rfl, Or.inr rfl, Or.inr rfl, Or.inr rfl, trivial⟩ h
  · replace h := h.2 c7
    refine g_ic zp0 (zf0_6 (k := 39) rfl) rfl ?_
    exact g_ret zp0 (zf0_6 (k := 40) rfl) (zret_b (by decide)) ⟨_, rfl, h⟩
set_option maxRecDepth 40000 in
theorem x0_581 {w : zWt} {d : Nat} {H : zHt} {K : Int → zHt → Prop} {l3 : Int}
    (h : (0 ≤ (w32 (l3 + 1)) ∧ (w32 (l3 + 1)) < (w.1 : Int)) ∧ zclI w d 73 [zR 32, zI (zH0 w.2 0 (w32 (l3 + 1)))] H (fun x3 H2 => zclI w d 196 [zR 81, zI (zH0 w.2 0 (w32 (l3 + 1)))] H2 (fun x5 H4 => (x3 = x5 → zgo w (d + 1) 0 2245 [zR 0, zR 32, zR 81, zI l3] [] H4 (zQI K)) ∧ (¬ x3 = x5 → K 0 H4)))) :
    zgo w (d + 1) 0 581 [zR 0, zR 32, zR 81, zI l3] [] H (zQI K) := by
  refine g_al zp0 (zf0_6 (k := 41) rfl) rfl rfl (by decide) ?_
  refine g_al zp0 (zf0_6 (k := 42) rfl) rfl rfl (by decide) ?_
  refine g_il zp0 (zf0_6 (k := 43) rfl) rfl rfl ?_
  refine g_ic zp0 (zf0_6 (k := 44) rfl) rfl ?_
  refine g_ar (r := w32 (l3 + 1)) zp0 (zf0_6 (k := 45) rfl) rfl rfl ?_
  obtain ⟨c1, h⟩ := h
  refine g_ald (v := zI (zH0 w.2 0 (w32 (l3 + 1)))) zp0 (zf0_6 (k := 46) rfl) rfl rfl rfl c1 rfl ?_
  refine g_callI (as := [zR 32, zI (zH0 w.2 0 (w32 (l3 + 1)))]) (rest := []) zp0 (zf0_6 (k := 47) rfl) rfl (Nat.succ_pos _) rfl rfl (Nat.le_of_ble_eq_true rfl) (Nat.le_of_ble_eq_true rfl) rfl rfl h (fun x3 H2 h => ?_)
  refine g_al zp0 (zf0_6 (k := 50) rfl) rfl rfl (by decide) ?_
  refine g_al zp0 (zf0_6 (k := 51) rfl) rfl rfl (by decide) ?_
  refine g_il zp0 (zf0_6 (k := 52) rfl) rfl rfl ?_
  refine g_ic zp0 (zf0_6 (k := 53) rfl) rfl ?_
  refine g_ar (r := w32 (l3 + 1)) zp0 (zf0_6 (k := 54) rfl) rfl rfl ?_
  refine g_ald (v := zI (zH0 w.2 0 (w32 (l3 + 1)))) zp0 (zf0_6 (k := 55) rfl) rfl rfl rfl c1 rfl ?_
  refine g_callI (as := [zR 81, zI (zH0 w.2 0 (w32 (l3 + 1)))]) (rest := [zI x3]) zp0 (zf0_6 (k := 56) rfl) rfl (Nat.succ_pos _) rfl rfl (Nat.le_of_ble_eq_true rfl) (Nat.le_of_ble_eq_true rfl) rfl rfl h (fun x5 H4 h => ?_)
  refine g_icmp zp0 (zf0_6 (k := 59) rfl) rfl zc0 (fun c6 => ?_) (fun c6 => ?_)
  · replace h := h.1 c6
    exact g_weak (ls' := [zR 0, zR 32, zR 81, zI l3]) ⟨Or.inr rfl, Or.inr rfl, Or.inr rfl, Or.inr rfl, trivial⟩ h
  · replace h := h.2 c6
    refine g_ic zp0 (zf0_6 (k := 62) rfl) rfl ?_
    exact g_ret zp0 (zf0_6 (k := 63) rfl) (zret_b (by decide)) ⟨_, rfl, h⟩
set_option maxRecDepth 40000 in
theorem x0_604 {w : zWt} {d : Nat} {H : zHt} {K : Int → zHt → Prop} {l3 : Int}
    (h : (0 ≤ (w32 (l3 + 1)) ∧ (w32 (l3 + 1)) < (w.1 : Int)) ∧ (0 ≤ (w32 (l3 + 2)) ∧ (w32 (l3 + 2)) < (w.1 : Int)) ∧ zclL w d 76 [zR 32, zI (zH0 w.2 0 (w32 (l3 + 1))), zI (zH0 w.2 0 (w32 (l3 + 2)))] H (fun x4 H3 => zclL w d 197 [zR 81, zI (zH0 w.2 0 (w32 (l3 + 1))), zI (zH0 w.2 0 (w32 (l3 + 2)))] H3 (fun x6 H5 => (x4 = x6 → zgo w (d + 1) 0 2245 [zR 0, zR 32, zR 81, zI l3] [] H5 (zQI K)) ∧ (¬ x4 = x6 → K 0 H5)))) :
    zgo w (d + 1) 0 604 [zR 0, zR 32, zR 81, zI l3] [] H (zQI K) := by
  refine g_al zp0 (zf0_6 (k := 64) rfl) rfl rfl (by decide) ?_
  refine g_al zp0 (zf0_6 (k := 65) rfl) rfl rfl (by decide) ?_
  refine g_il zp0 (zf0_6 (k := 66) rfl) rfl rfl ?_
  refine g_ic zp0 (zf0_6 (k := 67) rfl) rfl ?_
  refine g_ar (r := w32 (l3 + 1)) zp0 (zf0_6 (k := 68) rfl) rfl rfl ?_
  obtain ⟨c1, h⟩ := h
  refine g_ald (v := zI (zH0 w.2 0 (w32 (l3 + 1)))) zp0 (zf0_6 (k := 69) rfl) rfl rfl rfl c1 rfl ?_
  refine g_al zp0 (zf0_6 (k := 70) rfl) rfl rfl (by decide) ?_
  refine g_il zp0 (zf0_6 (k := 71) rfl) rfl rfl ?_
  refine g_ic zp0 (zf0_6 (k := 72) rfl) rfl ?_
  refine g_ar (r := w32 (l3 + 2)) zp0 (zf0_6 (k := 73) rfl) rfl rfl ?_
  obtain ⟨c2, h⟩ := h
  refine g_ald (v := zI (zH0 w.2 0 (w32 (l3 + 2)))) zp0 (zf0_6 (k := 74) rfl) rfl rfl rfl c2 rfl ?_
  refine g_callL (as := [zR 32, zI (zH0 w.2 0 (w32 (l3 + 1))), zI (zH0 w.2 0 (w32 (l3 + 2)))]) (rest := []) zp0 (zf0_6 (k := 75) rfl) rfl (Nat.succ_pos _) rfl rfl (Nat.le_of_ble_eq_true rfl) (Nat.le_of_ble_eq_true rfl) rfl rfl h (fun x4 H3 h => ?_)
  refine g_al zp0 (zf0_6 (k := 78) rfl) rfl rfl (by decide) ?_
  refine g_al zp0 (zf0_6 (k := 79) rfl) rfl rfl (by decide) ?_
  refine g_il zp0 (zf0_6 (k := 80) rfl) rfl rfl ?_
  refine g_ic zp0 (zf0_6 (k := 81) rfl) rfl ?_
  refine g_ar (r := w32 (l3 + 1)) zp0 (zf0_6 (k := 82) rfl) rfl rfl ?_
  refine g_ald (v := zI (zH0 w.2 0 (w32 (l3 + 1)))) zp0 (zf0_6 (k := 83) rfl) rfl rfl rfl c1 rfl ?_
  refine g_al zp0 (zf0_6 (k := 84) rfl) rfl rfl (by decide) ?_
  refine g_il zp0 (zf0_6 (k := 85) rfl) rfl rfl ?_
  refine g_ic zp0 (zf0_6 (k := 86) rfl) rfl ?_
  refine g_ar (r := w32 (l3 + 2)) zp0 (zf0_6 (k := 87) rfl) rfl rfl ?_
  refine g_ald (v := zI (zH0 w.2 0 (w32 (l3 + 2)))) zp0 (zf0_6 (k := 88) rfl) rfl rfl rfl c2 rfl ?_
  refine g_callL (as := [zR 81, zI (zH0 w.2 0 (w32 (l3 + 1))), zI (zH0 w.2 0 (w32 (l3 + 2)))]) (rest := [zL x4]) zp0 (zf0_6 (k := 89) rfl) rfl (Nat.succ_pos _) rfl rfl (Nat.le_of_ble_eq_true rfl) (Nat.le_of_ble_eq_true rfl) rfl rfl h (fun x6 H5 h => ?_)
  refine g_lcmp zp0 (zf0_7 (k := 2) rfl) rfl (zf0_7 (k := 3) rfl) rfl zc0 (fun c7 => ?_) (fun c7 => ?_)
  · replace h := h.1 c7
    exact g_weak (ls' := [zR 0, zR 32, zR 81, zI l3]) ⟨Or.inr rfl, Or.inr rfl, Or.inr rfl, Or.inr rfl, trivial⟩ h
  · replace h := h.2 c7
    refine g_ic zp0 (zf0_7 (k := 6) rfl) rfl ?_
    exact g_ret zp0 (zf0_7 (k := 7) rfl) (zret_b (by decide)) ⟨_, rfl, h⟩
set_option maxRecDepth 40000 in
theorem x0_638 {w : zWt} {d : Nat} {H : zHt} {K : Int → zHt → Prop} {l3 : Int}
    (h : (0 ≤ (w32 (l3 + 1)) ∧ (w32 (l3 + 1)) < (w.1 : Int)) ∧ (0 ≤ (w32 (l3 + 2)) ∧ (w32 (l3 + 2)) < (w.1 : Int)) ∧ zclI w d 78 [zR 32, zI (zH0 w.2 0 (w32 (l3 + 1))), zI (zH0 w.2 0 (w32 (l3 + 2)))] H (fun x4 H3 => zclI w d 199 [zR 81, zI (zH0 w.2 0 (w32 (l3 + 1))), zI (zH0 w.2 0 (w32 (l3 + 2)))] H3 (fun x6 H5 => (x4 = x6 → zgo w (d + 1) 0 2245 [zR 0, zR 32, zR 81, zI l3] [] H5 (zQI K)) ∧ (¬ x4 = x6 → K 0 H5)))) :
    zgo w (d + 1) 0 638 [zR 0, zR 32, zR 81, zI l3] [] H (zQI K) := by
  refine g_al zp0 (zf0_7 (k := 8) rfl) rfl rfl (by decide) ?_
  refine g_al zp0 (zf0_7 (k := 9) rfl) rfl rfl (by decide) ?_
  refine g_il zp0 (zf0_7 (k := 10) rfl) rfl rfl ?_
  refine g_ic zp0 (zf0_7 (k := 11) rfl) rfl ?_
  refine g_ar (r := w32 (l3 + 1)) zp0 (zf0_7 (k := 12) rfl) rfl rfl ?_
  obtain ⟨c1, h⟩ := h
  refine g_ald (v := zI (zH0 w.2 0 (w32 (l3 + 1)))) zp0 (zf0_7 (k := 13) rfl) rfl rfl rfl c1 rfl ?_
  refine g_al zp0 (zf0_7 (k := 14) rfl) rfl rfl (by decide) ?_
  refine g_il zp0 (zf0_7 (k := 15) rfl) rfl rfl ?_
  refine g_ic zp0 (zf0_7 (k := 16) rfl) rfl ?_
  refine g_ar (r := w32 (l3 + 2)) zp0 (zf0_7 (k := 17) rfl) rfl rfl ?_
  obtain ⟨c2, h⟩ := h
  refine g_ald (v := zI (zH0 w.2 0 (w32 (l3 + 2)))) zp0 (zf0_7 (k := 18) rfl) rfl rfl rfl c2 rfl ?_
  refine g_callI (as := [zR 32, zI (zH0 w.2 0 (w32 (l3 + 1))), zI (zH0 w.2 0 (w32 (l3 + 2)))]) (rest := []) zp0 (zf0_7 (k := 19) rfl) rfl (Nat.succ_pos _) rfl rfl (Nat.le_of_ble_eq_true rfl) (Nat.le_of_ble_eq_true rfl) rfl rfl h (fun x4 H3 h => ?_)
  refine g_al zp0 (zf0_7 (k := 22) rfl) rfl rfl (by decide) ?_
  refine g_al zp0 (zf0_7 (k := 23) rfl) rfl rfl (by decide) ?_
  refine g_il zp0 (zf0_7 (k := 24) rfl) rfl rfl ?_
  refine g_ic zp0 (zf0_7 (k := 25) rfl) rfl ?_
  refine g_ar (r := w32 (l3 + 1)) zp0 (zf0_7 (k := 26) rfl) rfl rfl ?_
  refine g_ald (v := zI (zH0 w.2 0 (w32 (l3 + 1)))) zp0 (zf0_7 (k := 27) rfl) rfl rfl rfl c1 rfl ?_
  refine g_al zp0 (zf0_7 (k := 28) rfl) rfl rfl (by decide) ?_
  refine g_il zp0 (zf0_7 (k := 29) rfl) rfl rfl ?_
  refine g_ic zp0 (zf0_7 (k := 30) rfl) rfl ?_
  refine g_ar (r := w32 (l3 + 2)) zp0 (zf0_7 (k := 31) rfl) rfl rfl ?_
  refine g_ald (v := zI (zH0 w.2 0 (w32 (l3 + 2)))) zp0 (zf0_7 (k := 32) rfl) rfl rfl rfl c2 rfl ?_
  refine g_callI (as := [zR 81, zI (zH0 w.2 0 (w32 (l3 + 1))), zI (zH0 w.2 0 (w32 (l3 + 2)))]) (rest := [zI x4]) zp0 (zf0_7 (k := 33) rfl) rfl (Nat.succ_pos _) rfl rfl (Nat.le_of_ble_eq_true rfl) (Nat.le_of_ble_eq_true rfl) rfl rfl h (fun x6 H5 h => ?_)
  refine g_icmp zp0 (zf0_7 (k := 36) rfl) rfl zc0 (fun c7 => ?_) (fun c7 => ?_)
  · replace h := h.1 c7
    exact g_weak (ls' := [zR 0, zR 32, zR 81, zI l3]) ⟨Or.inr rfl, Or.inr rfl, Or.inr rfl, Or.inr rfl, trivial⟩ h
  · replace h := h.2 c7
    refine g_ic zp0 (zf0_7 (k := 39) rfl) rfl ?_
    exact g_ret zp0 (zf0_7 (k := 40) rfl) (zret_b (by decide)) ⟨_, rfl, h⟩
set_option maxRecDepth 40000 in
theorem x0_671 {w : zWt} {d : Nat} {H : zHt} {K : Int → zHt → Prop} {l3 : Int}
    (h : (0 ≤ (w32 (l3 + 1)) ∧ (w32 (l3 + 1)) < (w.1 : Int)) ∧ (0 ≤ (w32 (l3 + 2)) ∧ (w32 (l3 + 2)) < (w.1 : Int)) ∧ (0 ≤ (w32 (l3 + 3)) ∧ (w32 (l3 + 3)) < (w.1 : Int)) ∧ (0 ≤ (w32 (l3 + 4)) ∧ (w32 (l3 + 4)) < (w.1 : Int)) ∧ zclI w d 80 [zR 32, zI (zH0 w.2 0 (w32 (l3 + 1))), zI (zH0 w.2 0 (w32 (l3 + 2))), zI (zH0 w.2 0 (w32 (l3 + 3))), zI (zH0 w.2 0 (w32 (l3 + 4)))] H (fun x6 H5 => zclI w d 200 [zR 81, zI (zH0 w.2 0 (w32 (l3 + 1))), zI (zH0 w.2 0 (w32 (l3 + 2))), zI (zH0 w.2 0 (w32 (l3 + 3))), zI (zH0 w.2 0 (w32 (l3 + 4)))] H5 (fun x8 H7 => (x6 = x8 → zgo w (d + 1) 0 2245 [zR 0, zR 32, zR 81, zI l3] [] H7 (zQI K)) ∧ (¬ x6 = x8 → K 0 H7)))) :
    zgo w (d + 1) 0 671 [zR 0, zR 32, zR 81, zI l3] [] H (zQI K) := by
  refine g_al zp0 (zf0_7 (k := 41) rfl) rfl rfl (by decide) ?_
  refine g_al zp0 (zf0_7 (k := 42) rfl) rfl rfl (by decide) ?_
  refine g_il zp0 (zf0_7 (k := 43) rfl) rfl rfl ?_
  refine g_ic zp0 (zf0_7 (k := 44) rfl) rfl ?_
  refine g_ar (r := w32 (l3 + 1)) zp0 (zf0_7 (k := 45) rfl) rfl rfl ?_
  obtain ⟨c1, h⟩ := h
  refine g_ald (v := zI (zH0 w.2 0 (w32 (l3 + 1)))) zp0 (zf0_7 (k := 46) rfl) rfl rfl rfl c1 rfl ?_
  refine g_al zp0 (zf0_7 (k := 47) rfl) rfl rfl (by decide) ?_
  refine g_il zp0 (zf0_7 (k := 48) rfl) rfl rfl ?_
  refine g_ic zp0 (zf0_7 (k := 49) rfl) rfl ?_
  refine g_ar (r := w32 (l3 + 2)) zp0 (zf0_7 (k := 50) rfl) rfl rfl ?_
  obtain ⟨c2, h⟩ := h
  refine g_ald (v := zI (zH0 w.2 0 (w32 (l3 + 2)))) zp0 (zf0_7 (k := 51) rfl) rfl rfl rfl c2 rfl ?_
  refine g_al zp0 (zf0_7 (k := 52) rfl) rfl rfl (by decide) ?_
  refine g_il zp0 (zf0_7 (k := 53) rfl) rfl rfl ?_
  refine g_ic zp0 (zf0_7 (k := 54) rfl) rfl ?_
  refine g_ar (r := w32 (l3 + 3)) zp0 (zf0_7 (k := 55) rfl) rfl rfl ?_
  obtain ⟨c3, h⟩ := h
  refine g_ald (v := zI (zH0 w.2 0 (w32 (l3 + 3)))) zp0 (zf0_7 (k := 56) rfl) rfl rfl rfl c3 rfl ?_
  refine g_al zp0 (zf0_7 (k := 57) rfl) rfl rfl (by decide) ?_
  refine g_il zp0 (zf0_7 (k := 58) rfl) rfl rfl ?_
  refine g_ic zp0 (zf0_7 (k := 59) rfl) rfl ?_
  refine g_ar (r := w32 (l3 + 4)) zp0 (zf0_7 (k := 60) rfl) rfl rfl ?_
  obtain ⟨c4, h⟩ := h
  refine g_ald (v := zI (zH0 w.2 0 (w32 (l3 + 4)))) zp0 (zf0_7 (k := 61) rfl) rfl rfl rfl c4 rfl ?_
  refine g_callI (as := [zR 32, zI (zH0 w.2 0 (w32 (l3 + 1))), zI (zH0 w.2 0 (w32 (l3 + 2))), zI (zH0 w.2 0 (w32 (l3 + 3))), zI (zH0 w.2 0 (w32 (l3 + 4)))]) (rest := []) zp0 (zf0_7 (k := 62) rfl) rfl (Nat.succ_pos _) rfl rfl (Nat.le_of_ble_eq_true rfl) (Nat.le_of_ble_eq_true rfl) rfl rfl h (fun x6 H5 h => ?_)
  refine g_al zp0 (zf0_7 (k := 65) rfl) rfl rfl (by decide) ?_
  refine g_al zp0 (zf0_7 (k := 66) rfl) rfl rfl (by decide) ?_
  refine g_il zp0 (zf0_7 (k := 67) rfl) rfl rfl ?_
  refine g_ic zp0 (zf0_7 (k := 68) rfl) rfl ?_
  refine g_ar (r := w32 (l3 + 1)) zp0 (zf0_7 (k := 69) rfl) rfl rfl ?_
  refine g_ald (v := zI (zH0 w.2 0 (w32 (l3 + 1)))) zp0 (zf0_7 (k := 70) rfl) rfl rfl rfl c1 rfl ?_
  refine g_al zp0 (zf0_7 (k := 71) rfl) rfl rfl (by decide) ?_
  refine g_il zp0 (zf0_7 (k := 72) rfl) rfl rfl ?_
  refine g_ic zp0 (zf0_7 (k := 73) rfl) rfl ?_
  refine g_ar (r := w32 (l3 + 2)) zp0 (zf0_7 (k := 74) rfl) rfl rfl ?_
  refine g_ald (v := zI (zH0 w.2 0 (w32 (l3 + 2)))) zp0 (zf0_7 (k := 75) rfl) rfl rfl rfl c2 rfl ?_
  refine g_al zp0 (zf0_7 (k := 76) rfl) rfl rfl (by decide) ?_
  refine g_il zp0 (zf0_7 (k := 77) rfl) rfl rfl ?_
  refine g_ic zp0 (zf0_7 (k := 78) rfl) rfl ?_
  refine g_ar (r := w32 (l3 + 3)) zp0 (zf0_7 (k := 79) rfl) rfl rfl ?_
  refine g_ald (v := zI (zH0 w.2 0 (w32 (l3 + 3)))) zp0 (zf0_7 (k := 80) rfl) rfl rfl rfl c3 rfl ?_
  refine g_al zp0 (zf0_7 (k := 81) rfl) rfl rfl (by decide) ?_
  refine g_il zp0 (zf0_7 (k := 82) rfl) rfl rfl ?_
  refine g_ic zp0 (zf0_7 (k := 83) rfl) rfl ?_
  refine g_ar (r := w32 (l3 + 4)) zp0 (zf0_7 (k := 84) rfl) rfl rfl ?_
  refine g_ald (v := zI (zH0 w.2 0 (w32 (l3 + 4)))) zp0 (zf0_7 (k := 85) rfl) rfl rfl rfl c4 rfl ?_
  refine g_callI (as := [zR 81, zI (zH0 w.2 0 (w32 (l3 + 1))), zI (zH0 w.2 0 (w32 (l3 + 2))), zI (zH0 w.2 0 (w32 (l3 + 3))), zI (zH0 w.2 0 (w32 (l3 + 4)))]) (rest := [zI x6]) zp0 (zf0_7 (k := 86) rfl) rfl (Nat.succ_pos _) rfl rfl (Nat.le_of_ble_eq_true rfl) (Nat.le_of_ble_eq_true rfl) rfl rfl h (fun x8 H7 h => ?_)
  refine g_icmp zp0 (zf0_7 (k := 89) rfl) rfl zc0 (fun c9 => ?_) (fun c9 => ?_)
  · replace h := h.1 c9
    exact g_weak (ls' := [zR 0, zR 32, zR 81, zI l3]) ⟨Or.inr rfl, Or.inr rfl, Or.inr rfl, Or.inr rfl, trivial⟩ h
  · replace h := h.2 c9
    refine g_ic zp0 (zf0_8 (k := 2) rfl) rfl ?_
    exact g_ret zp0 (zf0_8 (k := 3) rfl) (zret_b (by decide)) ⟨_, rfl, h⟩
set_option maxRecDepth 40000 in
theorem x0_724 {w : zWt} {d : Nat} {H : zHt} {K : Int → zHt → Prop} {l3 : Int}
    (h : (0 ≤ (w32 (l3 + 1)) ∧ (w32 (l3 + 1)) < (w.1 : Int)) ∧ (0 ≤ (w32 (l3 + 2)) ∧ (w32 (l3 + 2)) < (w.1 : Int)) ∧ (0 ≤ (w32 (l3 + 3)) ∧ (w32 (l3 + 3)) < (w.1 : Int)) ∧ zclI w d 83 [zR 32, zI (zH0 w.2 0 (w32 (l3 + 1))), zI (zH0 w.2 0 (w32 (l3 + 2))), zI (zH0 w.2 0 (w32 (l3 + 3)))] H (fun x5 H4 => zclI w d 202 [zR 81, zI (zH0 w.2 0 (w32 (l3 + 1))), zI (zH0 w.2 0 (w32 (l3 + 2))), zI (zH0 w.2 0 (w32 (l3 + 3)))] H4 (fun x7 H6 => (x5 = x7 → zgo w (d + 1) 0 2245 [zR 0, zR 32, zR 81, zI l3] [] H6 (zQI K)) ∧ (¬ x5 = x7 → K 0 H6)))) :
    zgo w (d + 1) 0 724 [zR 0, zR 32, zR 81, zI l3] [] H (zQI K) := by
  refine g_al zp0 (zf0_8 (k := 4) rfl) rfl rfl (by decide) ?_
  refine g_al zp0 (zf0_8 (k := 5) rfl) rfl rfl (by decide) ?_
  refine g_il zp0 (zf0_8 (k := 6) rfl) rfl rfl ?_
  refine g_ic zp0 (zf0_8 (k := 7) rfl) rfl ?_
  refine g_ar (r := w32 (l3 + 1)) zp0 (zf0_8 (k := 8) rfl) rfl rfl ?_
  obtain ⟨c1, h⟩ := h
  refine g_ald (v := zI (zH0 w.2 0 (w32 (l3 + 1)))) zp0 (zf0_8 (k := 9) rfl) rfl rfl rfl c1 rfl ?_
  refine g_al zp0 (zf0_8 (k := 10) rfl) rfl rfl (by decide) ?_
  refine g_il zp0 (zf0_8 (k := 11) rfl) rfl rfl ?_
  refine g_ic zp0 (zf0_8 (k := 12) rfl) rfl ?_
  refine g_ar (r := w32 (l3 + 2)) zp0 (zf0_8 (k := 13) rfl) rfl rfl ?_
  obtain ⟨c2, h⟩ := h
  refine g_ald (v := zI (zH0 w.2 0 (w32 (l3 + 2)))) zp0 (zf0_8 (k := 14) rfl) rfl rfl rfl c2 rfl ?_
  refine g_al zp0 (zf0_8 (k := 15) rfl) rfl rfl (by decide) ?_
  refine g_il zp0 (zf0_8 (k := 16) rfl) rfl rfl ?_
  refine g_ic zp0 (zf0_8 (k := 17) rfl) rfl ?_
  refine g_ar (r := w32 (l3 + 3)) zp0 (zf0_8 (k := 18) rfl) rfl rfl ?_
  obtain ⟨c3, h⟩ := h
  refine g_ald (v := zI (zH0 w.2 0 (w32 (l3 + 3)))) zp0 (zf0_8 (k := 19) rfl) rfl rfl rfl c3 rfl ?_
  refine g_callI (as := [zR 32, zI (zH0 w.2 0 (w32 (l3 + 1))), zI (zH0 w.2 0 (w32 (l3 + 2))), zI (zH0 w.2 0 (w32 (l3 + 3)))]) (rest := []) zp0 (zf0_8 (k := 20) rfl) rfl (Nat.succ_pos _) rfl rfl (Nat.le_of_ble_eq_true rfl) (Nat.le_of_ble_eq_true rfl) rfl rfl h (fun x5 H4 h => ?_)
  refine g_al zp0 (zf0_8 (k := 23) rfl) rfl rfl (by decide) ?_
  refine g_al zp0 (zf0_8 (k := 24) rfl) rfl rfl (by decide) ?_
  refine g_il zp0 (zf0_8 (k := 25) rfl) rfl rfl ?_
  refine g_ic zp0 (zf0_8 (k := 26) rfl) rfl ?_
  refine g_ar (r := w32 (l3 + 1)) zp0 (zf0_8 (k := 27) rfl) rfl rfl ?_
  refine g_ald (v := zI (zH0 w.2 0 (w32 (l3 + 1)))) zp0 (zf0_8 (k := 28) rfl) rfl rfl rfl c1 rfl ?_
  refine g_al zp0 (zf0_8 (k := 29) rfl) rfl rfl (by decide) ?_
  refine g_il zp0 (zf0_8 (k := 30) rfl) rfl rfl ?_
  refine g_ic zp0 (zf0_8 (k := 31) rfl) rfl ?_
  refine g_ar (r := w32 (l3 + 2)) zp0 (zf0_8 (k := 32) rfl) rfl rfl ?_
  refine g_ald (v := zI (zH0 w.2 0 (w32 (l3 + 2)))) zp0 (zf0_8 (k := 33) rfl) rfl rfl rfl c2 rfl ?_
  refine g_al zp0 (zf0_8 (k := 34) rfl) rfl rfl (by decide) ?_
  refine g_il zp0 (zf0_8 (k := 35) rfl) rfl rfl ?_
  refine g_ic zp0 (zf0_8 (k := 36) rfl) rfl ?_
  refine g_ar (r := w32 (l3 + 3)) zp0 (zf0_8 (k := 37) rfl) rfl rfl ?_
  refine g_ald (v := zI (zH0 w.2 0 (w32 (l3 + 3)))) zp0 (zf0_8 (k := 38) rfl) rfl rfl rfl c3 rfl ?_
  refine g_callI (as := [zR 81, zI (zH0 w.2 0 (w32 (l3 + 1))), zI (zH0 w.2 0 (w32 (l3 + 2))), zI (zH0 w.2 0 (w32 (l3 + 3)))]) (rest := [zI x5]) zp0 (zf0_8 (k := 39) rfl) rfl (Nat.succ_pos _) rfl rfl (Nat.le_of_ble_eq_true rfl) (Nat.le_of_ble_eq_true rfl) rfl rfl h (fun x7 H6 h => ?_)
  refine g_icmp zp0 (zf0_8 (k := 42) rfl) rfl zc0 (fun c8 => ?_) (fun c8 => ?_)
  · replace h := h.1 c8
    exact g_weak (ls' := [zR 0, zR 32, zR 81, zI l3]) ⟨Or.inr rfl, Or.inr rfl, Or.inr rfl, Or.inr rfl, trivial⟩ h
  · replace h := h.2 c8
    refine g_ic zp0 (zf0_8 (k := 45) rfl) rfl ?_
    exact g_ret zp0 (zf0_8 (k := 46) rfl) (zret_b (by decide)) ⟨_, rfl, h⟩
set_option maxRecDepth 40000 in
theorem x0_767 {w : zWt} {d : Nat} {H : zHt} {K : Int → zHt → Prop} {l3 : Int}
    (h : (0 ≤ (w32 (l3 + 1)) ∧ (w32 (l3 + 1)) < (w.1 : Int)) ∧ (0 ≤ (w32 (l3 + 2)) ∧ (w32 (l3 + 2)) < (w.1 : Int)) ∧ (0 ≤ (w32 (l3 + 3)) ∧ (w32 (l3 + 3)) < (w.1 : Int)) ∧ zclI w d 85 [zR 32, zI (zH0 w.2 0 (w32 (l3 + 1))), zI (zH0 w.2 0 (w32 (l3 + 2))), zI (zH0 w.2 0 (w32 (l3 + 3)))] H (fun x5 H4 => zclI w d 204 [zR 81, zI (zH0 w.2 0 (w32 (l3 + 1))), zI (zH0 w.2 0 (w32 (l3 + 2))), zI (zH0 w.2 0 (w32 (l3 + 3)))] H4 (fun x7 H6 => (x5 = x7 → zgo w (d + 1) 0 2245 [zR 0, zR 32, zR 81, zI l3] [] H6 (zQI K)) ∧ (¬ x5 = x7 → K 0 H6)))) :
    zgo w (d + 1) 0 767 [zR 0, zR 32, zR 81, zI l3] [] H (zQI K) := by
  refine g_al zp0 (zf0_8 (k := 47) rfl) rfl rfl (by decide) ?_
  refine g_al zp0 (zf0_8 (k := 48) rfl) rfl rfl (by decide) ?_
  refine g_il zp0 (zf0_8 (k := 49) rfl) rfl rfl ?_
  refine g_ic zp0 (zf0_8 (k := 50) rfl) rfl ?_
  refine g_ar (r := w32 (l3 + 1)) zp0 (zf0_8 (k := 51) rfl) rfl rfl ?_
  obtain ⟨c1, h⟩ := h
  refine g_ald (v := zI (zH0 w.2 0 (w32 (l3 + 1)))) zp0 (zf0_8 (k := 52) rfl) rfl rfl rfl c1 rfl ?_
  refine g_al zp0 (zf0_8 (k := 53) rfl) rfl rfl (by decide) ?_
  refine g_il zp0 (zf0_8 (k := 54) rfl) rfl rfl ?_
  refine g_ic zp0 (zf0_8 (k := 55) rfl) rfl ?_
  refine g_ar (r := w32 (l3 + 2)) zp0 (zf0_8 (k := 56) rfl) rfl rfl ?_
  obtain ⟨c2, h⟩ := h
  refine g_ald (v := zI (zH0 w.2 0 (w32 (l3 + 2)))) zp0 (zf0_8 (k := 57) rfl) rfl rfl rfl c2 rfl ?_
  refine g_al zp0 (zf0_8 (k := 58) rfl) rfl rfl (by decide) ?_
  refine g_il zp0 (zf0_8 (k := 59) rfl) rfl rfl ?_
  refine g_ic zp0 (zf0_8 (k := 60) rfl) rfl ?_
  refine g_ar (r := w32 (l3 + 3)) zp0 (zf0_8 (k := 61) rfl) rfl rfl ?_
  obtain ⟨c3, h⟩ := h
  refine g_ald (v := zI (zH0 w.2 0 (w32 (l3 + 3)))) zp0 (zf0_8 (k := 62) rfl) rfl rfl rfl c3 rfl ?_
  refine g_callI (as := [zR 32, zI (zH0 w.2 0 (w32 (l3 + 1))), zI (zH0 w.2 0 (w32 (l3 + 2))), zI (zH0 w.2 0 (w32 (l3 + 3)))]) (rest := []) zp0 (zf0_8 (k := 63) rfl) rfl (Nat.succ_pos _) rfl rfl (Nat.le_of_ble_eq_true rfl) (Nat.le_of_ble_eq_true rfl) rfl rfl h (fun x5 H4 h => ?_)
  refine g_al zp0 (zf0_8 (k := 66) rfl) rfl rfl (by decide) ?_
  refine g_al zp0 (zf0_8 (k := 67) rfl) rfl rfl (by decide) ?_
  refine g_il zp0 (zf0_8 (k := 68) rfl) rfl rfl ?_
  refine g_ic zp0 (zf0_8 (k := 69) rfl) rfl ?_
  refine g_ar (r := w32 (l3 + 1)) zp0 (zf0_8 (k := 70) rfl) rfl rfl ?_
  refine g_ald (v := zI (zH0 w.2 0 (w32 (l3 + 1)))) zp0 (zf0_8 (k := 71) rfl) rfl rfl rfl c1 rfl ?_
  refine g_al zp0 (zf0_8 (k := 72) rfl) rfl rfl (by decide) ?_
  refine g_il zp0 (zf0_8 (k := 73) rfl) rfl rfl ?_
  refine g_ic zp0 (zf0_8 (k := 74) rfl) rfl ?_
  refine g_ar (r := w32 (l3 + 2)) zp0 (zf0_8 (k := 75) rfl) rfl rfl ?_
  refine g_ald (v := zI (zH0 w.2 0 (w32 (l3 + 2)))) zp0 (zf0_8 (k := 76) rfl) rfl rfl rfl c2 rfl ?_
  refine g_al zp0 (zf0_8 (k := 77) rfl) rfl rfl (by decide) ?_
  refine g_il zp0 (zf0_8 (k := 78) rfl) rfl rfl ?_
  refine g_ic zp0 (zf0_8 (k := 79) rfl) rfl ?_
  refine g_ar (r := w32 (l3 + 3)) zp0 (zf0_8 (k := 80) rfl) rfl rfl ?_
  refine g_ald (v := zI (zH0 w.2 0 (w32 (l3 + 3)))) zp0 (zf0_8 (k := 81) rfl) rfl rfl rfl c3 rfl ?_
  refine g_callI (as := [zR 81, zI (zH0 w.2 0 (w32 (l3 + 1))), zI (zH0 w.2 0 (w32 (l3 + 2))), zI (zH0 w.2 0 (w32 (l3 + 3)))]) (rest := [zI x5]) zp0 (zf0_8 (k := 82) rfl) rfl (Nat.succ_pos _) rfl rfl (Nat.le_of_ble_eq_true rfl) (Nat.le_of_ble_eq_true rfl) rfl rfl h (fun x7 H6 h => ?_)
  refine g_icmp zp0 (zf0_8 (k := 85) rfl) rfl zc0 (fun c8 => ?_) (fun c8 => ?_)
  · replace h := h.1 c8
    exact g_weak (ls' := [zR 0, zR 32, zR 81, zI l3]) ⟨Or.inr rfl, Or.inr rfl, Or.inr rfl, Or.inr rfl, trivial⟩ h
  · replace h := h.2 c8
    refine g_ic zp0 (zf0_8 (k := 88) rfl) rfl ?_
    exact g_ret zp0 (zf0_8 (k := 89) rfl) (zret_b (by decide)) ⟨_, rfl, h⟩
set_option maxRecDepth 40000 in
theorem x0_810 {w : zWt} {d : Nat} {H : zHt} {K : Int → zHt → Prop} {l3 : Int}
    (h : (0 ≤ (w32 (l3 + 1)) ∧ (w32 (l3 + 1)) < (w.1 : Int)) ∧ (0 ≤ (w32 (l3 + 2)) ∧ (w32 (l3 + 2)) < (w.1 : Int)) ∧ zclI w d 86 [zR 32, zI (zH0 w.2 0 (w32 (l3 + 1))), zI (zH0 w.2 0 (w32 (l3 + 2)))] H (fun x4 H3 => zclI w d 210 [zR 81, zI (zH0 w.2 0 (w32 (l3 + 1))), zI (zH0 w.2 0 (w32 (l3 + 2)))] H3 (fun x6 H5 => (x4 = x6 → zgo w (d + 1) 0 2245 [zR 0, zR 32, zR 81, zI l3] [] H5 (zQI K)) ∧ (¬ x4 = x6 → K 0 H5)))) :
    zgo w (d + 1) 0 810 [zR 0, zR 32, zR 81, zI l3] [] H (zQI K) := by
  refine g_al zp0 (zf0_9 (k := 0) rfl) rfl rfl (by decide) ?_
  refine g_al zp0 (zf0_9 (k := 1) rfl) rfl rfl (by decide) ?_
  refine g_il zp0 (zf0_9 (k := 2) rfl) rfl rfl ?_
  refine g_ic zp0 (zf0_9 (k := 3) rfl) rfl ?_
  refine g_ar (r := w32 (l3 + 1)) zp0 (zf0_9 (k := 4) rfl) rfl rfl ?_
  obtain ⟨c1, h⟩ := h
  refine g_ald (v := zI (zH0 w.2 0 (w32 (l3 + 1)))) zp0 (zf0_9 (k := 5) rfl) rfl rfl rfl c1 rfl ?_
  refine g_al zp0 (zf0_9 (k := 6) rfl) rfl rfl (by decide) ?_
  refine g_il zp0 (zf0_9 (k := 7) rfl) rfl rfl ?_
  refine g_ic zp0 (zf0_9 (k := 8) rfl) rfl ?_
  refine g_ar (r := w32 (l3 + 2)) zp0 (zf0_9 (k := 9) rfl) rfl rfl ?_
  obtain ⟨c2, h⟩ := h
  refine g_ald (v := zI (zH0 w.2 0 (w32 (l3 + 2)))) zp0 (zf0_9 (k := 10) rfl) rfl rfl rfl c2 rfl ?_
  refine g_callI (as := [zR 32, zI (zH0 w.2 0 (w32 (l3 + 1))), zI (zH0 w.2 0 (w32 (l3 + 2)))]) (rest := []) zp0 (zf0_9 (k := 11) rfl) rfl (Nat.succ_pos _) rfl rfl (Nat.le_of_ble_eq_true rfl) (Nat.le_of_ble_eq_true rfl) rfl rfl h (fun x4 H3 h => ?_)
  refine g_al zp0 (zf0_9 (k := 14) rfl) rfl rfl (by decide) ?_
  refine g_al zp0 (zf0_9 (k := 15) rfl) rfl rfl (by decide) ?_
  refine g_il zp0 (zf0_9 (k := 16) rfl) rfl rfl ?_
  refine g_ic zp0 (zf0_9 (k := 17) rfl) rfl ?_
  refine g_ar (r := w32 (l3 + 1)) zp0 (zf0_9 (k := 18) rfl) rfl rfl ?_
  refine g_ald (v := zI (zH0 w.2 0 (w32 (l3 + 1)))) zp0 (zf0_9 (k := 19) rfl) rfl rfl rfl c1 rfl ?_
  refine g_al zp0 (zf0_9 (k := 20) rfl) rfl rfl (by decide) ?_
  refine g_il zp0 (zf0_9 (k := 21) rfl) rfl rfl ?_
  refine g_ic zp0 (zf0_9 (k := 22) rfl) rfl ?_
  refine g_ar (r := w32 (l3 + 2)) zp0 (zf0_9 (k := 23) rfl) rfl rfl ?_
  refine g_ald (v := zI (zH0 w.2 0 (w32 (l3 + 2)))) zp0 (zf0_9 (k := 24) rfl) rfl rfl rfl c2 rfl ?_
  refine g_callI (as := [zR 81, zI (zH0 w.2 0 (w32 (l3 + 1))), zI (zH0 w.2 0 (w32 (l3 + 2)))]) (rest := [zI x4]) zp0 (zf0_9 (k := 25) rfl) rfl (Nat.succ_pos _) rfl rfl (Nat.le_of_ble_eq_true rfl) (Nat.le_of_ble_eq_true rfl) rfl rfl h (fun x6 H5 h => ?_)
  refine g_icmp zp0 (zf0_9 (k := 28) rfl) rfl zc0 (fun c7 => ?_) (fun c7 => ?_)
  · replace h := h.1 c7
    exact g_weak (ls' := [zR 0, zR 32, zR 81, zI l3]) ⟨Or.inr rfl, Or.inr rfl, Or.inr rfl, Or.inr rfl, trivial⟩ h
  · replace h := h.2 c7
    refine g_ic zp0 (zf0_9 (k := 31) rfl) rfl ?_
    exact g_ret zp0 (zf0_9 (k := 32) rfl) (zret_b (by decide)) ⟨_, rfl, h⟩
set_option maxRecDepth 40000 in
theorem x0_843 {w : zWt} {d : Nat} {H : zHt} {K : Int → zHt → Prop} {l3 : Int}
    (h : (0 ≤ (w32 (l3 + 1)) ∧ (w32 (l3 + 1)) < (w.1 : Int)) ∧ (0 ≤ (w32 (l3 + 2)) ∧ (w32 (l3 + 2)) < (w.1 : Int)) ∧ zclI w d 90 [zR 32, zI (zH0 w.2 0 (w32 (l3 + 1))), zI (zH0 w.2 0 (w32 (l3 + 2)))] H (fun x4 H3 => zclI w d 213 [zR 81, zI (zH0 w.2 0 (w32 (l3 + 1))), zI (zH0 w.2 0 (w32 (l3 + 2)))] H3 (fun x6 H5 => (x4 = x6 → zgo w (d + 1) 0 2245 [zR 0, zR 32, zR 81, zI l3] [] H5 (zQI K)) ∧ (¬ x4 = x6 → K 0 H5)))) :
    zgo w (d + 1) 0 843 [zR 0, zR 32, zR 81, zI l3] [] H (zQI K) := by
  refine g_al zp0 (zf0_9 (k := 33) rfl) rfl rfl (by decide) ?_
  refine g_al zp0 (zf0_9 (k := 34) rfl) rfl rfl (by decide) ?_
  refine g_il zp0 (zf0_9 (k := 35) rfl) rfl rfl ?_
  refine g_ic zp0 (zf0_9 (k := 36) rfl) rfl ?_
  refine g_ar (r := w32 (l3 + 1)) zp0 (zf0_9 (k := 37) rfl) rfl rfl ?_
  obtain ⟨c1, h⟩ := h
  refine g_ald (v := zI (zH0 w.2 0 (w32 (l3 + 1)))) zp0 (zf0_9 (k := 38) rfl) rfl rfl rfl c1 rfl ?_
  refine g_al zp0 (zf0_9 (k := 39) rfl) rfl rfl (by decide) ?_
  refine g_il zp0 (zf0_9 (k := 40) rfl) rfl rfl ?_
  refine g_ic zp0 (zf0_9 (k := 41) rfl) rfl ?_
  refine g_ar (r := w32 (l3 + 2)) zp0 (zf0_9 (k := 42) rfl) rfl rfl ?_
  obtain ⟨c2, h⟩ := h
  refine g_ald (v := zI (zH0 w.2 0 (w32 (l3 + 2)))) zp0 (zf0_9 (k := 43) rfl) rfl rfl rfl c2 rfl ?_
  refine g_callI (as := [zR 32, zI (zH0 w.2 0 (w32 (l3 + 1))), zI (zH0 w.2 0 (w32 (l3 + 2)))]) (rest := []) zp0 (zf0_9 (k := 44) rfl) rfl (Nat.succ_pos _) rfl rfl (Nat.le_of_ble_eq_true rfl) (Nat.le_of_ble_eq_true rfl) rfl rfl h (fun x4 H3 h => ?_)
  refine g_al zp0 (zf0_9 (k := 47) rfl) rfl rfl (by decide) ?_
  refine g_al zp0 (zf0_9 (k := 48) rfl) rfl rfl (by decide) ?_
  refine g_il zp0 (zf0_9 (k := 49) rfl) rfl rfl ?_
  refine g_ic zp0 (zf0_9 (k := 50) rfl) rfl ?_
  refine g_ar (r := w32 (l3 + 1)) zp0 (zf0_9 (k := 51) rfl) rfl rfl ?_
  refine g_ald (v := zI (zH0 w.2 0 (w32 (l3 + 1)))) zp0 (zf0_9 (k := 52) rfl) rfl rfl rfl c1 rfl ?_
  refine g_al zp0 (zf0_9 (k := 53) rfl) rfl rfl (by decide) ?_
  refine g_il zp0 (zf0_9 (k := 54) rfl) rfl rfl ?_
  refine g_ic zp0 (zf0_9 (k := 55) rfl) rfl ?_
  refine g_ar (r := w32 (l3 + 2)) zp0 (zf0_9 (k := 56) rfl) rfl rfl ?_
  refine g_ald (v := zI (zH0 w.2 0 (w32 (l3 + 2)))) zp0 (zf0_9 (k := 57) rfl) rfl rfl rfl c2 rfl ?_
  refine g_callI (as := [zR 81, zI (zH0 w.2 0 (w32 (l3 + 1))), zI (zH0 w.2 0 (w32 (l3 + 2)))]) (rest := [zI x4]) zp0 (zf0_9 (k := 58) rfl) rfl (Nat.succ_pos _) rfl rfl (Nat.le_of_ble_eq_true rfl) (Nat.le_of_ble_eq_true rfl) rfl rfl h (fun x6 H5 h => ?_)
  refine g_icmp zp0 (zf0_9 (k := 61) rfl) rfl zc0 (fun c7 => ?_) (fun c7 => ?_)
  · replace h := h.1 c7
    exact g_weak (ls' := [zR 0, zR 32, zR 81, zI l3]) ⟨Or.inr rfl, Or.inr rfl, Or.inr rfl, Or.inr rfl, trivial⟩ h
  · replace h := h.2 c7
    refine g_ic zp0 (zf0_9 (k := 64) rfl) rfl ?_
    exact g_ret zp0 (zf0_9 (k := 65) rfl) (zret_b (by decide)) ⟨_, rfl, h⟩
set_option maxRecDepth 40000 in
theorem x0_876 {w : zWt} {d : Nat} {H : zHt} {K : Int → zHt → Prop} {l3 : Int}
    (h : (0 ≤ (w32 (l3 + 1)) ∧ (w32 (l3 + 1)) < (w.1 : Int)) ∧ zclI w d 91 [zR 32, zI (zH0 w.2 0 (w32 (l3 + 1)))] H (fun x3 H2 => zclI w d 214 [zR 81, zI (zH0 w.2 0 (w32 (l3 + 1)))] H2 (fun x5 H4 => (x3 = x5 → zgo w (d + 1) 0 2245 [zR 0, zR 32, zR 81, zI l3] [] H4 (zQI K)) ∧ (¬ x3 = x5 → K 0 H4)))) :
    zgo w (d + 1) 0 876 [zR 0, zR 32, zR 81, zI l3] [] H (zQI K) := by
  refine g_al zp0 (zf0_9 (k := 66) rfl) rfl rfl (by decide) ?_
  refine g_al zp0 (zf0_9 (k := 67) rfl) rfl rfl (by decide) ?_
  refine g_il zp0 (zf0_9 (k := 68) rfl) rfl rfl ?_
  refine g_ic zp0 (zf0_9 (k := 69) rfl) rfl ?_
  refine g_ar (r := w32 (l3 + 1)) zp0 (zf0_9 (k := 70) rfl) rfl rfl ?_
  obtain ⟨c1, h⟩ := h
  refine g_ald (v := zI (zH0 w.2 0 (w32 (l3 + 1)))) zp0 (zf0_9 (k := 71) rfl) rfl rfl rfl c1 rfl ?_
  refine g_callI (as := [zR 32, zI (zH0 w.2 0 (w32 (l3 + 1)))]) (rest := []) zp0 (zf0_9 (k := 72) rfl) rfl (Nat.succ_pos _) rfl rfl (Nat.le_of_ble_eq_true rfl) (Nat.le_of_ble_eq_true rfl) rfl rfl h (fun x3 H2 h => ?_)
  refine g_al zp0 (zf0_9 (k := 75) rfl) rfl rfl (by decide) ?_
  refine g_al zp0 (zf0_9 (k := 76) rfl) rfl rfl (by decide) ?_
  refine g_il zp0 (zf0_9 (k := 77) rfl) rfl rfl ?_
  refine g_ic zp0 (zf0_9 (k := 78) rfl) rfl ?_
  refine g_ar (r := w32 (l3 + 1)) zp0 (zf0_9 (k := 79) rfl) rfl rfl ?_
  refine g_ald (v := zI (zH0 w.2 0 (w32 (l3 + 1)))) zp0 (zf0_9 (k := 80) rfl) rfl rfl rfl c1 rfl ?_
  refine g_callI (as := [zR 81, zI (zH0 w.2 0 (w32 (l3 + 1)))]) (rest := [zI x3]) zp0 (zf0_9 (k := 81) rfl) rfl (Nat.succ_pos _) rfl rfl (Nat.le_of_ble_eq_true rfl) (Nat.le_of_ble_eq_true rfl) rfl rfl h (fun x5 H4 h => ?_)
  refine g_icmp zp0 (zf0_9 (k := 84) rfl) rfl zc0 (fun c6 => ?_) (fun c6 => ?_)
  · replace h := h.1 c6
    exact g_weak (ls' := [zR 0, zR 32, zR 81, zI l3]) ⟨Or.inr rfl, Or.inr rfl, Or.inr rfl, Or.inr rfl, trivial⟩ h
  · replace h := h.2 c6
    refine g_ic zp0 (zf0_9 (k := 87) rfl) rfl ?_
    exact g_ret zp0 (zf0_9 (k := 88) rfl) (zret_b (by decide)) ⟨_, rfl, h⟩
set_option maxRecDepth 40000 in
theorem x0_899 {w : zWt} {d : Nat} {H : zHt} {K : Int → zHt → Prop} {l3 : Int}
    (h : (0 ≤ (w32 (l3 + 1)) ∧ (w32 (l3 + 1)) < (w.1 : Int)) ∧ (0 ≤ (w32 (l3 + 2)) ∧ (w32 (l3 + 2)) < (w.1 : Int)) ∧ zclI w d 93 [zR 32, zI (zH0 w.2 0 (w32 (l3 + 1))), zI (zH0 w.2 0 (w32 (l3 + 2)))] H (fun x4 H3 => zclI w d 215 [zR 81, zI (zH0 w.2 0 (w32 (l3 + 1))), zI (zH0 w.2 0 (w32 (l3 + 2)))] H3 (fun x6 H5 => (x4 = x6 → zgo w (d + 1) 0 2245 [zR 0, zR 32, zR 81, zI l3] [] H5 (zQI K)) ∧ (¬ x4 = x6 → K 0 H5)))) :
    zgo w (d + 1) 0 899 [zR 0, zR 32, zR 81, zI l3] [] H (zQI K) := by
  refine g_al zp0 (zf0_9 (k := 89) rfl) rfl rfl (by decide) ?_
  refine g_al zp0 (zf0_10 (k := 0) rfl) rfl rfl (by decide) ?_
  refine g_il zp0 (zf0_10 (k := 1) rfl) rfl rfl ?_
  refine g_ic zp0 (zf0_10 (k := 2) rfl) rfl ?_
  refine g_ar (r := w32 (l3 + 1)) zp0 (zf0_10 (k := 3) rfl) rfl rfl ?_
  obtain ⟨c1, h⟩ := h
  refine g_ald (v := zI (zH0 w.2 0 (w32 (l3 + 1)))) zp0 (zf0_10 (k := 4) rfl) rfl rfl rfl c1 rfl ?_
  refine g_al zp0 (zf0_10 (k := 5) rfl) rfl rfl (by decide) ?_
  refine g_il zp0 (zf0_10 (k := 6) rfl) rfl rfl ?_
  refine g_ic zp0 (zf0_10 (k := 7) rfl) rfl ?_
  refine g_ar (r := w32 (l3 + 2)) zp0 (zf0_10 (k := 8) rfl) rfl rfl ?_
  obtain ⟨c2, h⟩ := h
  refine g_ald (v := zI (zH0 w.2 0 (w32 (l3 + 2)))) zp0 (zf0_10 (k := 9) rfl) rfl rfl rfl c2 rfl ?_
  refine g_callI (as := [zR 32, zI (zH0 w.2 0 (w32 (l3 + 1))), zI (zH0 w.2 0 (w32 (l3 + 2)))]) (rest := []) zp0 (zf0_10 (k := 10) rfl) rfl (Nat.succ_pos _) rfl rfl (Nat.le_of_ble_eq_true rfl) (Nat.le_of_ble_eq_true rfl) rfl rfl h (fun x4 H3 h => ?_)
  refine g_al zp0 (zf0_10 (k := 13) rfl) rfl rfl (by decide) ?_
  refine g_al zp0 (zf0_10 (k := 14) rfl) rfl rfl (by decide) ?_
  refine g_il zp0 (zf0_10 (k := 15) rfl) rfl rfl ?_
  refine g_ic zp0 (zf0_10 (k := 16) rfl) rfl ?_
  refine g_ar (r := w32 (l3 + 1)) zp0 (zf0_10 (k := 17) rfl) rfl rfl ?_
  refine g_ald (v := zI (zH0 w.2 0 (w32 (l3 + 1)))) zp0 (zf0_10 (k := 18) rfl) rfl rfl rfl c1 rfl ?_
  refine g_al zp0 (zf0_10 (k := 19) rfl) rfl rfl (by decide) ?_
  refine g_il zp0 (zf0_10 (k := 20) rfl) rfl rfl ?_
  refine g_ic zp0 (zf0_10 (k := 21) rfl) rfl ?_
  refine g_ar (r := w32 (l3 + 2)) zp0 (zf0_10 (k := 22) rfl) rfl rfl ?_
  refine g_ald (v := zI (zH0 w.2 0 (w32 (l3 + 2)))) zp0 (zf0_10 (k := 23) rfl) rfl rfl rfl c2 rfl ?_
  refine g_callI (as := [zR 81, zI (zH0 w.2 0 (w32 (l3 + 1))), zI (zH0 w.2 0 (w32 (l3 + 2)))]) (rest := [zI x4]) zp0 (zf0_10 (k := 24) rfl) rfl (Nat.succ_pos _) rfl rfl (Nat.le_of_ble_eq_true rfl) (Nat.le_of_ble_eq_true rfl) rfl rfl h (fun x6 H5 h => ?_)
  refine g_icmp zp0 (zf0_10 (k := 27) rfl) rfl zc0 (fun c7 => ?_) (fun c7 => ?_)
  · replace h := h.1 c7
    exact g_weak (ls' := [zR 0, zR 32, zR 81, zI l3]) ⟨Or.inr rfl, Or.inr rfl, Or.inr rfl, Or.inr rfl, trivial⟩ h
  · replace h := h.2 c7
    refine g_ic zp0 (zf0_10 (k := 30) rfl) rfl ?_
    exact g_ret zp0 (zf0_10 (k := 31) rfl) (zret_b (by decide)) ⟨_, rfl, h⟩
set_option maxRecDepth 40000 in
theorem x0_932 {w : zWt} {d : Nat} {H : zHt} {K : Int → zHt → Prop} {l3 : Int}
    (h : (0 ≤ (w32 (l3 + 1)) ∧ (w32 (l3 + 1)) < (w.1 : Int)) ∧ (0 ≤ (w32 (l3 + 2)) ∧ (w32 (l3 + 2)) < (w.1 : Int)) ∧ ((zH0 w.2 0 (w32 (l3 + 2))) = 0 → zgo w (d + 1) 0 951 [zR 0, zR 32, zR 81, zI l3] [zI 0, zI (zH0 w.2 0 (w32 (l3 + 1))), zR 32] H (zQI K)) ∧ (¬ (zH0 w.2 0 (w32 (l3 + 2))) = 0 → zgo w (d + 1) 0 951 [zR 0, zR 32, zR 81, zI l3] [zI 1, zI (zH0 w.2 0 (w32 (l3 + 1))), zR 32] H (zQI K))) :
    zgo w (d + 1) 0 932 [zR 0, zR 32, zR 81, zI l3] [] H (zQI K) := by
  refine g_al zp0 (zf0_10 (k := 32) rfl) rfl rfl (by decide) ?_
  refine g_al zp0 (zf0_10 (k := 33) rfl) rfl rfl (by decide) ?_
  refine g_il zp0 (zf0_10 (k := 34) rfl) rfl rfl ?_
  refine g_ic zp0 (zf0_10 (k := 35) rfl) rfl ?_
  refine g_ar (r := w32 (l3 + 1)) zp0 (zf0_10 (k := 36) rfl) rfl rfl ?_
  obtain ⟨c1, h⟩ := h
  refine g_ald (v := zI (zH0 w.2 0 (w32 (l3 + 1)))) zp0 (zf0_10 (k := 37) rfl) rfl rfl rfl c1 rfl ?_
  refine g_al zp0 (zf0_10 (k := 38) rfl) rfl rfl (by decide) ?_
  refine g_il zp0 (zf0_10 (k := 39) rfl) rfl rfl ?_
  refine g_ic zp0 (zf0_10 (k := 40) rfl) rfl ?_
  refine g_ar (r := w32 (l3 + 2)) zp0 (zf0_10 (k := 41) rfl) rfl rfl ?_
  obtain ⟨c2, h⟩ := h
  refine g_ald (v := zI (zH0 w.2 0 (w32 (l3 + 2)))) zp0 (zf0_10 (k := 42) rfl) rfl rfl rfl c2 rfl ?_
  refine g_if zp0 (zf0_10 (k := 43) rfl) rfl zc0 (fun c3 => ?_) (fun c3 => ?_)
  · replace h := h.1 c3
    refine g_ic zp0 (zf0_10 (k := 50) rfl) rfl ?_
    exact g_weak (ls' := [zR 0, zR 32, zR 81, zI l3]) ⟨Or.inr rfl, Or.inr rfl, Or.inr rfl, Or.inr rfl, trivial⟩ h
  · replace h := h.2 c3
    refine g_ic zp0 (zf0_10 (k := 46) rfl) rfl ?_
    refine g_goto zp0 (zf0_10 (k := 47) rfl) ?_
    exact g_weak (ls' := [zR 0, zR 32, zR 81, zI l3]) ⟨Or.inr rfl, Or.inr rfl, Or.inr rfl, Or.inr rfl, trivial⟩ h
set_option maxRecDepth 40000 in
theorem x0_951 {w : zWt} {d : Nat} {H : zHt} {K : Int → zHt → Prop} {l3 : Int} {s1 : Int} {s2 : Int}
    (h : (0 ≤ (w32 (l3 + 3)) ∧ (w32 (l3 + 3)) < (w.1 : Int)) ∧ zclL w d 94 [zR 32, zI s1, zI s2, zI (zH0 w.2 0 (w32 (l3 + 3)))] H (fun x3 H2 => (0 ≤ (w32 (l3 + 1)) ∧ (w32 (l3 + 1)) < (w.1 : Int)) ∧ (0 ≤ (w32 (l3 + 2)) ∧ (w32 (l3 + 2)) < (w.1 : Int)) ∧ ((zH0 w.2 0 (w32 (l3 + 2))) = 0 → zclL w d 216 [zR 81, zI (zH0 w.2 0 (w32 (l3 + 1))), zI 0, zI (zH0 w.2 0 (w32 (l3 + 3)))] H2 (fun x8 H7 => (x3 = x8 → zgo w (d + 1) 0 2245 [zR 0, zR 32, zR 81, zI l3] [] H7 (zQI K)) ∧ (¬ x3 = x8 → K 0 H7))) ∧ (¬ (zH0 w.2 0 (w32 (l3 + 2))) = 0 → zclL w d 216 [zR 81, zI (zH0 w.2 0 (w32 (l3 + 1))), zI 1, zI (zH0 w.2 0 (w32 (l3 + 3)))] H2 (fun x11 H10 => (x3 = x11 → zgo w (d + 1) 0 2245 [zR 0, zR 32, zR 81, zI l3] [] H10 (zQI K)) ∧ (¬ x3 = x11 → K 0 H10))))) :
    zgo w (d + 1) 0 951 [zR 0, zR 32, zR 81, zI l3] [zI s2, zI s1, zR 32] H (zQI K) := by
  refine g_al zp0 (zf0_10 (k := 51) rfl) rfl rfl (by decide) ?_
  refine g_il zp0 (zf0_10 (k := 52) rfl) rfl rfl ?_
  refine g_ic zp0 (zf0_10 (k := 53) rfl) rfl ?_
  refine g_ar (r := w32 (l3 + 3)) zp0 (zf0_10 (k := 54) rfl) rfl rfl ?_
  obtain ⟨c1, h⟩ := h
  refine g_ald (v := zI (zH0 w.2 0 (w32 (l3 + 3)))) zp0 (zf0_10 (k := 55) rfl) rfl rfl rfl c1 rfl ?_
  refine g_callL (as := [zR 32, zI s1, zI s2, zI (zH0 w.2 0 (w32 (l3 + 3)))]) (rest := []) zp0 (zf0_10 (k := 56) rfl) rfl (Nat.succ_pos _) rfl rfl (Nat.le_of_ble_eq_true rfl) (Nat.le_of_ble_eq_true rfl) rfl rfl h (fun x3 H2 h => ?_)
  refine g_al zp0 (zf0_10 (k := 59) rfl) rfl rfl (by decide) ?_
  refine g_al zp0 (zf0_10 (k := 60) rfl) rfl rfl (by decide) ?_
  refine g_il zp0 (zf0_10 (k := 61) rfl) rfl rfl ?_
  refine g_ic zp0 (zf0_10 (k := 62) rfl) rfl ?_
  refine g_ar (r := w32 (l3 + 1)) zp0 (zf0_10 (k := 63) rfl) rfl rfl ?_
  obtain ⟨c4, h⟩ := h
  refine g_ald (v := zI (zH0 w.2 0 (w32 (l3 + 1)))) zp0 (zf0_10 (k := 64) rfl) rfl rfl rfl c4 rfl ?_
  refine g_al zp0 (zf0_10 (k := 65) rfl) rfl rfl (by decide) ?_
  refine g_il zp0 (zf0_10 (k := 66) rfl) rfl rfl ?_
  refine g_ic zp0 (zf0_10 (k := 67) rfl) rfl ?_
  refine g_ar (r := w32 (l3 + 2)) zp0 (zf0_10 (k := 68) rfl) rfl rfl ?_
  obtain ⟨c5, h⟩ := h
  refine g_ald (v := zI (zH0 w.2 0 (w32 (l3 + 2)))) zp0 (zf0_10 (k := 69) rfl) rfl rfl rfl c5 rfl ?_
  refine g_if zp0 (zf0_10 (k := 70) rfl) rfl zc0 (fun c6 => ?_) (fun c6 => ?_)
  · replace h := h.1 c6
    refine g_ic zp0 (zf0_10 (k := 77) rfl) rfl ?_
    refine g_al zp0 (zf0_10 (k := 78) rfl) rfl rfl (by decide) ?_
    refine g_il zp0 (zf0_10 (k := 79) rfl) rfl rfl ?_
    refine g_ic zp0 (zf0_10 (k := 80) rfl) rfl ?_
    refine g_ar (r := w32 (l3 + 3)) zp0 (zf0_10 (k := 81) rfl) rfl rfl ?_
    refine g_ald (v := zI (zH0 w.2 0 (w32 (l3 + 3)))) zp0 (zf0_10 (k := 82) rfl) rfl rfl rfl c1 rfl ?_
    refine g_callL (as := [zR 81, zI (zH0 w.2 0 (w32 (l3 + 1))), zI 0, zI (zH0 w.2 0 (w32 (l3 + 3)))]) (rest := [zL x3]) zp0 (zf0_10 (k := 83) rfl) rfl (Nat.succ_pos _) rfl rfl (Nat.le_of_ble_eq_true rfl) (Nat.le_of_ble_eq_true rfl) rfl rfl h (fun x8 H7 h => ?_)
    refine g_lcmp zp0 (zf0_10 (k := 86) rfl) rfl (zf0_10 (k := 87) rfl) rfl zc0 (fun c9 => ?_) (fun c9 => ?_)
    · replace h := h.1 c9
      exact g_weak (ls' := [zR 0, zR 32, zR 81, zI l3]) ⟨Or.inr rfl, Or.inr rfl, Or.inr rfl, Or.inr rfl, trivial⟩ h
    · replace h := h.2 c9
      refine g_ic zp0 (zf0_11 (k := 0) rfl) rfl ?_
      exact g_ret zp0 (zf0_11 (k := 1) rfl) (zret_b (by decide)) ⟨_, rfl, h⟩
  · replace h := h.2 c6
    refine g_ic zp0 (zf0_10 (k := 73) rfl) rfl ?_
    refine g_goto zp0 (zf0_10 (k := 74) rfl) ?_
    refine g_al zp0 (zf0_10 (k := 78) rfl) rfl rfl (by decide) ?_
    refine g_il zp0 (zf0_10 (k := 79) rfl) rfl rfl ?_
    refine g_ic zp0 (zf0_10 (k := 80) rfl) rfl ?_
    refine g_ar (r := w32 (l3 + 3)) zp0 (zf0_10 (k := 81) rfl) rfl rfl ?_
    refine g_ald (v := zI (zH0 w.2 0 (w32 (l3 + 3)))) zp0 (zf0_10 (k := 82) rfl) rfl rfl rfl c1 rfl ?_
    refine g_callL (as := [zR 81, zI (zH0 w.2 0 (w32 (l3 + 1))), zI 1, zI (zH0 w.2 0 (w32 (l3 + 3)))]) (rest := [zL x3]) zp0 (zf0_10 (k := 83) rfl) rfl (Nat.succ_pos _) rfl rfl (Nat.le_of_ble_eq_true rfl) (Nat.le_of_ble_eq_true rfl) rfl rfl h (fun x11 H10 h => ?_)
    refine g_lcmp zp0 (zf0_10 (k := 86) rfl) rfl (zf0_10 (k := 87) rfl) rfl zc0 (fun c12 => ?_) (fun c12 => ?_)
    · replace h := h.1 c12
      exact g_weak (ls' := [zR 0, zR 32, zR 81, zI l3]) ⟨Or.inr rfl, Or.inr rfl, Or.inr rfl, Or.inr rfl, trivial⟩ h
    · replace h := h.2 c12
      refine g_ic zp0 (zf0_11 (k := 0) rfl) rfl ?_
      exact g_ret zp0 (zf0_11 (k := 1) rfl) (zret_b (by decide)) ⟨_, rfl, h⟩
set_option maxRecDepth 40000 in
theorem x0_992 {w : zWt} {d : Nat} {H : zHt} {K : Int → zHt → Prop} {l3 : Int}
    (h : (0 ≤ (w32 (l3 + 1)) ∧ (w32 (l3 + 1)) < (w.1 : Int)) ∧ (0 ≤ (w32 (l3 + 2)) ∧ (w32 (l3 + 2)) < (w.1 : Int)) ∧ (0 ≤ (w32 (l3 + 3)) ∧ (w32 (l3 + 3)) < (w.1 : Int)) ∧ zclI w d 95 [zR 32, zI (zH0 w.2 0 (w32 (l3 + 1))), zI (zH0 w.2 0 (w32 (l3 + 2))), zI (zH0 w.2 0 (w32 (l3 + 3)))] H (fun x5 H4 => zclI w d 208 [zR 81, zI (zH0 w.2 0 (w32 (l3 + 1))), zI (zH0 w.2 0 (w32 (l3 + 2))), zI (zH0 w.2 0 (w32 (l3 + 3)))] H4 (fun x7 H6 => (x5 = x7 → zgo w (d + 1) 0 2245 [zR 0, zR 32, zR 81, zI l3] [] H6 (zQI K)) ∧ (¬ x5 = x7 → K 0 H6)))) :
    zgo w (d + 1) 0 992 [zR 0, zR 32, zR 81, zI l3] [] H (zQI K) := by
  refine g_al zp0 (zf0_11 (k := 2) rfl) rfl rfl (by decide) ?_
  refine g_al zp0 (zf0_11 (k := 3) rfl) rfl rfl (by decide) ?_
  refine g_il zp0 (zf0_11 (k := 4) rfl) rfl rfl ?_
  refine g_ic zp0 (zf0_11 (k := 5) rfl) rfl ?_
  refine g_ar (r := w32 (l3 + 1)) zp0 (zf0_11 (k := 6) rfl) rfl rfl ?_
  obtain ⟨c1, h⟩ := h
  refine g_ald (v := zI (zH0 w.2 0 (w32 (l3 + 1)))) zp0 (zf0_11 (k := 7) rfl) rfl rfl rfl c1 rfl ?_
  refine g_al zp0 (zf0_11 (k := 8) rfl) rfl rfl (by decide) ?_
  refine g_il zp0 (zf0_11 (k := 9) rfl) rfl rfl ?_
  refine g_ic zp0 (zf0_11 (k := 10) rfl) rfl ?_
  refine g_ar (r := w32 (l3 + 2)) zp0 (zf0_11 (k := 11) rfl) rfl rfl ?_
  obtain ⟨c2, h⟩ := h
  refine g_ald (v := zI (zH0 w.2 0 (w32 (l3 + 2)))) zp0 (zf0_11 (k := 12) rfl) rfl rfl rfl c2 rfl ?_
  refine g_al zp0 (zf0_11 (k := 13) rfl) rfl rfl (by decide) ?_
  refine g_il zp0 (zf0_11 (k := 14) rfl) rfl rfl ?_
  refine g_ic zp0 (zf0_11 (k := 15) rfl) rfl ?_
  refine g_ar (r := w32 (l3 + 3)) zp0 (zf0_11 (k := 16) rfl) rfl rfl ?_
  obtain ⟨c3, h⟩ := h
  refine g_ald (v := zI (zH0 w.2 0 (w32 (l3 + 3)))) zp0 (zf0_11 (k := 17) rfl) rfl rfl rfl c3 rfl ?_
  refine g_callI (as := [zR 32, zI (zH0 w.2 0 (w32 (l3 + 1))), zI (zH0 w.2 0 (w32 (l3 + 2))), zI (zH0 w.2 0 (w32 (l3 + 3)))]) (rest := []) zp0 (zf0_11 (k := 18) rfl) rfl (Nat.succ_pos _) rfl rfl (Nat.le_of_ble_eq_true rfl) (Nat.le_of_ble_eq_true rfl) rfl rfl h (fun x5 H4 h => ?_)
  refine g_al zp0 (zf0_11 (k := 21) rfl) rfl rfl (by decide) ?_
  refine g_al zp0 (zf0_11 (k := 22) rfl) rfl rfl (by decide) ?_
  refine g_il zp0 (zf0_11 (k := 23) rfl) rfl rfl ?_
  refine g_ic zp0 (zf0_11 (k := 24) rfl) rfl ?_
  refine g_ar (r := w32 (l3 + 1)) zp0 (zf0_11 (k := 25) rfl) rfl rfl ?_
  refine g_ald (v := zI (zH0 w.2 0 (w32 (l3 + 1)))) zp0 (zf0_11 (k := 26) rfl) rfl rfl rfl c1 rfl ?_
  refine g_al zp0 (zf0_11 (k := 27) rfl) rfl rfl (by decide) ?_
  refine g_il zp0 (zf0_11 (k := 28) rfl) rfl rfl ?_
  refine g_ic zp0 (zf0_11 (k := 29) rfl) rfl ?_
  refine g_ar (r := w32 (l3 + 2)) zp0 (zf0_11 (k := 30) rfl) rfl rfl ?_
  refine g_ald (v := zI (zH0 w.2 0 (w32 (l3 + 2)))) zp0 (zf0_11 (k := 31) rfl) rfl rfl rfl c2 rfl ?_
  refine g_al zp0 (zf0_11 (k := 32) rfl) rfl rfl (by decide) ?_
  refine g_il zp0 (zf0_11 (k := 33) rfl) rfl rfl ?_
  refine g_ic zp0 (zf0_11 (k := 34) rfl) rfl ?_
  refine g_ar (r := w32 (l3 + 3)) zp0 (zf0_11 (k := 35) rfl) rfl rfl ?_
  refine g_ald (v := zI (zH0 w.2 0 (w32 (l3 + 3)))) zp0 (zf0_11 (k := 36) rfl) rfl rfl rfl c3 rfl ?_
  refine g_callI (as := [zR 81, zI (zH0 w.2 0 (w32 (l3 + 1))), zI (zH0 w.2 0 (w32 (l3 + 2))), zI (zH0 w.2 0 (w32 (l3 + 3)))]) (rest := [zI x5]) zp0 (zf0_11 (k := 37) rfl) rfl (Nat.succ_pos _) rfl rfl (Nat.le_of_ble_eq_true rfl) (Nat.le_of_ble_eq_true rfl) rfl rfl h (fun x7 H6 h => ?_)
  refine g_icmp zp0 (zf0_11 (k := 40) rfl) rfl zc0 (fun c8 => ?_) (fun c8 => ?_)
  · replace h := h.1 c8
    exact g_weak (ls' := [zR 0, zR 32, zR 81, zI l3]) ⟨Or.inr rfl, Or.inr rfl, Or.inr rfl, Or.inr rfl, trivial⟩ h
  · replace h := h.2 c8
    refine g_ic zp0 (zf0_11 (k := 43) rfl) rfl ?_
    exact g_ret zp0 (zf0_11 (k := 44) rfl) (zret_b (by decide)) ⟨_, rfl, h⟩
set_option maxRecDepth 40000 in
theorem x0_1035 {w : zWt} {d : Nat} {H : zHt} {K : Int → zHt → Prop} {l3 : Int}
    (h : (0 ≤ (w32 (l3 + 1)) ∧ (w32 (l3 + 1)) < (w.1 : Int)) ∧ zclI w d 97 [zR 32, zI (zH0 w.2 0 (w32 (l3 + 1)))] H (fun x3 H2 => zclI w d 209 [zR 81, zI (zH0 w.2 0 (w32 (l3 + 1)))] H2 (fun x5 H4 => (x3 = x5 → zgo w (d + 1) 0 2245 [zR 0, zR 32, zR 81, zI l3] [] H4 (zQI K)) ∧ (¬ x3 = x5 → K 0 H4)))) :
    zgo w (d + 1) 0 1035 [zR 0, zR 32, zR 81, zI l3] [] H (zQI K) := by
  refine g_al zp0 (zf0_11 (k := 45) rfl) rfl rfl (by decide) ?_
  refine g_al zp0 (zf0_11 (k := 46) rfl) rfl rfl (by decide) ?_
  refine g_il zp0 (zf0_11 (k := 47) rfl) rfl rfl ?_
  refine g_ic zp0 (zf0_11 (k := 48) rfl) rfl ?_
  refine g_ar (r := w32 (l3 + 1)) zp0 (zf0_11 (k := 49) rfl) rfl rfl ?_
  obtain ⟨c1, h⟩ := h
  refine g_ald (v := zI (zH0 w.2 0 (w32 (l3 + 1)))) zp0 (zf0_11 (k := 50) rfl) rfl rfl rfl c1 rfl ?_
  refine g_callI (as := [zR 32, zI (zH0 w.2 0 (w32 (l3 + 1)))]) (rest := []) zp0 (zf0_11 (k := 51) rfl) rfl (Nat.succ_pos _) rfl rfl (Nat.le_of_ble_eq_true rfl) (Nat.le_of_ble_eq_true rfl) rfl rfl h (fun x3 H2 h => ?_)
  refine g_al zp0 (zf0_11 (k := 54) rfl) rfl rfl (by decide) ?_
  refine g_al zp0 (zf0_11 (k := 55) rfl) rfl rfl (by decide) ?_
  refine g_il zp0 (zf0_11 (k := 56) rfl) rfl rfl ?_
  refine g_ic zp0 (zf0_11 (k := 57) rfl) rfl ?_
  refine g_ar (r := w32 (l3 + 1)) zp0 (zf0_11 (k := 58) rfl) rfl rfl ?_
  refine g_ald (v := zI (zH0 w.2 0 (w32 (l3 + 1)))) zp0 (zf0_11 (k := 59) rfl) rfl rfl rfl c1 rfl ?_
  refine g_callI (as := [zR 81, zI (zH0 w.2 0 (w32 (l3 + 1)))]) (rest := [zI x3]) zp0 (zf0_11 (k := 60) rfl) rfl (Nat.succ_pos _) rfl rfl (Nat.le_of_ble_eq_true rfl) (Nat.le_of_ble_eq_true rfl) rfl rfl h (fun x5 H4 h => ?_)
  refine g_icmp zp0 (zf0_11 (k := 63) rfl) rfl zc0 (fun c6 => ?_) (fun c6 => ?_)
  · replace h := h.1 c6
    exact g_weak (ls' := [zR 0, zR 32, zR 81, zI l3]) ⟨Or.inr rfl, Or.inr rfl, Or.inr rfl, Or.inr rfl, trivial⟩ h
  · replace h := h.2 c6
    refine g_ic zp0 (zf0_11 (k := 66) rfl) rfl ?_
    exact g_ret zp0 (zf0_11 (k := 67) rfl) (zret_b (by decide)) ⟨_, rfl, h⟩
set_option maxRecDepth 40000 in
theorem x0_1058 {w : zWt} {d : Nat} {H : zHt} {K : Int → zHt → Prop} {l3 : Int}
    (h : (0 ≤ (w32 (l3 + 1)) ∧ (w32 (l3 + 1)) < (w.1 : Int)) ∧ (0 ≤ (w32 (l3 + 2)) ∧ (w32 (l3 + 2)) < (w.1 : Int)) ∧ zclI w d 99 [zR 32, zI (zH0 w.2 0 (w32 (l3 + 1))), zI (zH0 w.2 0 (w32 (l3 + 2)))] H (fun x4 H3 => zclI w d 217 [zR 81, zI (zH0 w.2 0 (w32 (l3 + 1))), zI (zH0 w.2 0 (w32 (l3 + 2)))] H3 (fun x6 H5 => (x4 = x6 → zgo w (d + 1) 0 2245 [zR 0, zR 32, zR 81, zI l3] [] H5 (zQI K)) ∧ (¬ x4 = x6 → K 0 H5)))) :
    zgo w (d + 1) 0 1058 [zR 0, zR 32, zR 81, zI l3] [] H (zQI K) := by
  refine g_al zp0 (zf0_11 (k := 68) rfl) rfl rfl (by decide) ?_
  refine g_al zp0 (zf0_11 (k := 69) rfl) rfl rfl (by decide) ?_
  refine g_il zp0 (zf0_11 (k := 70) rfl) rfl rfl ?_
  refine g_ic zp0 (zf0_11 (k := 71) rfl) rfl ?_
  refine g_ar (r := w32 (l3 + 1)) zp0 (zf0_11 (k := 72) rfl) rfl rfl ?_
  obtain ⟨c1, h⟩ := h
  refine g_ald (v := zI (zH0 w.2 0 (w32 (l3 + 1)))) zp0 (zf0_11 (k := 73) rfl) rfl rfl rfl c1 rfl ?_
  refine g_al zp0 (zf0_11 (k := 74) rfl) rfl rfl (by decide) ?_
  refine g_il zp0 (zf0_11 (k := 75) rfl) rfl rfl ?_
  refine g_ic zp0 (zf0_11 (k := 76) rfl) rfl ?_
  refine g_ar (r := w32 (l3 + 2)) zp0 (zf0_11 (k := 77) rfl) rfl rfl ?_
  obtain ⟨c2, h⟩ := h
  refine g_ald (v := zI (zH0 w.2 0 (w32 (l3 + 2)))) zp0 (zf0_11 (k := 78) rfl) rfl rfl rfl c2 rfl ?_
  refine g_callI (as := [zR 32, zI (zH0 w.2 0 (w32 (l3 + 1))), zI (zH0 w.2 0 (w32 (l3 + 2)))]) (rest := []) zp0 (zf0_11 (k := 79) rfl) rfl (Nat.succ_pos _) rfl rfl (Nat.le_of_ble_eq_true rfl) (Nat.le_of_ble_eq_true rfl) rfl rfl h (fun x4 H3 h => ?_)
  refine g_al zp0 (zf0_11 (k := 82) rfl) rfl rfl (by decide) ?_
  refine g_al zp0 (zf0_11 (k := 83) rfl) rfl rfl (by decide) ?_
  refine g_il zp0 (zf0_11 (k := 84) rfl) rfl rfl ?_
  refine g_ic zp0 (zf0_11 (k := 85) rfl) rfl ?_
  refine g_ar (r := w32 (l3 + 1)) zp0 (zf0_11 (k := 86) rfl) rfl rfl ?_
  refine g_ald (v := zI (zH0 w.2 0 (w32 (l3 + 1)))) zp0 (zf0_11 (k := 87) rfl) rfl rfl rfl c1 rfl ?_
  refine g_al zp0 (zf0_11 (k := 88) rfl) rfl rfl (by decide) ?_
  refine g_il zp0 (zf0_11 (k := 89) rfl) rfl rfl ?_
  refine g_ic zp0 (zf0_12 (k := 0) rfl) rfl ?_
  refine g_ar (r := w32 (l3 + 2)) zp0 (zf0_12 (k := 1) rfl) rfl rfl ?_
  refine g_ald (v := zI (zH0 w.2 0 (w32 (l3 + 2)))) zp0 (zf0_12 (k := 2) rfl) rfl rfl rfl c2 rfl ?_
  refine g_callI (as := [zR 81, zI (zH0 w.2 0 (w32 (l3 + 1))), zI (zH0 w.2 0 (w32 (l3 + 2)))]) (rest := [zI x4]) zp0 (zf0_12 (k := 3) rfl) rfl (Nat.succ_pos _) rfl rfl (Nat.le_of_ble_eq_true rfl) (Nat.le_of_ble_eq_true rfl) rfl rfl h (fun x6 H5 h => ?_)
  refine g_icmp zp0 (zf0_12 (k := 6) rfl) rfl zc0 (fun c7 => ?_) (fun c7 => ?_)
  · replace h := h.1 c7
    exact g_weak (ls' := [zR 0, zR 32, zR 81, zI l3]) ⟨Or.inr rfl, Or.inr rfl, Or.inr rfl, Or.inr rfl, trivial⟩ h
  · replace h := h.2 c7
    refine g_ic zp0 (zf0_12 (k := 9) rfl) rfl ?_
    exact g_ret zp0 (zf0_12 (k := 10) rfl) (zret_b (by decide)) ⟨_, rfl, h⟩
set_option maxRecDepth 40000 in
theorem x0_1091 {w : zWt} {d : Nat} {H : zHt} {K : Int → zHt → Prop} {l3 : Int}
    (h : (0 ≤ (w32 (l3 + 1)) ∧ (w32 (l3 + 1)) < (w.1 : Int)) ∧ (0 ≤ (w32 (l3 + 2)) ∧ (w32 (l3 + 2)) < (w.1 : Int)) ∧ zclI w d 102 [zR 32, zI (zH0 w.2 0 (w32 (l3 + 1))), zI (zH0 w.2 0 (w32 (l3 + 2)))] H (fun x4 H3 => zclI w d 219 [zR 81, zI (zH0 w.2 0 (w32 (l3 + 1))), zI (zH0 w.2 0 (w32 (l3 + 2)))] H3 (fun x6 H5 => (x4 = x6 → zgo w (d + 1) 0 2245 [zR 0, zR 32, zR 81, zI l3] [] H5 (zQI K)) ∧ (¬ x4 = x6 → K 0 H5)))) :
    zgo w (d + 1) 0 1091 [zR 0, zR 32, zR 81, zI l3] [] H (zQI K) := by
  refine g_al zp0 (zf0_12 (k := 11) rfl) rfl rfl (by decide) ?_
  refine g_al zp0 (zf0_12 (k := 12) rfl) rfl rfl (by decide) ?_
  refine g_il zp0 (zf0_12 (k := 13) rfl) rfl rfl ?_
  refine g_ic zp0 (zf0_12 (k := 14) rfl) rfl ?_
  refine g_ar (r := w32 (l3 + 1)) zp0 (zf0_12 (k := 15) rfl) rfl rfl ?_
  obtain ⟨c1, h⟩ := h
  refine g_ald (v := zI (zH0 w.2 0 (w32 (l3 + 1)))) zp0 (zf0_12 (k := 16) rfl) rfl rfl rfl c1 rfl ?_
  refine g_al zp0 (zf0_12 (k := 17) rfl) rfl rfl (by decide) ?_
  refine g_il zp0 (zf0_12 (k := 18) rfl) rfl rfl ?_
  refine g_ic zp0 (zf0_12 (k := 19) rfl) rfl ?_
  refine g_ar (r := w32 (l3 + 2)) zp0 (zf0_12 (k := 20) rfl) rfl rfl ?_
  obtain ⟨c2, h⟩ := h
  refine g_ald (v := zI (zH0 w.2 0 (w32 (l3 + 2)))) zp0 (zf0_12 (k := 21) rfl) rfl rfl rfl c2 rfl ?_
  refine g_callI (as := [zR 32, zI (zH0 w.2 0 (w32 (l3 + 1))), zI (zH0 w.2 0 (w32 (l3 + 2)))]) (rest := []) zp0 (zf0_12 (k := 22) rfl) rfl (Nat.succ_pos _) rfl rfl (Nat.le_of_ble_eq_true rfl) (Nat.le_of_ble_eq_true rfl) rfl rfl h (fun x4 H3 h => ?_)
  refine g_al zp0 (zf0_12 (k := 25) rfl) rfl rfl (by decide) ?_
  refine g_al zp0 (zf0_12 (k := 26) rfl) rfl rfl (by decide) ?_
  refine g_il zp0 (zf0_12 (k := 27) rfl) rfl rfl ?_
  refine g_ic zp0 (zf0_12 (k := 28) rfl) rfl ?_
  refine g_ar (r := w32 (l3 + 1)) zp0 (zf0_12 (k := 29) rfl) rfl rfl ?_
  refine g_ald (v := zI (zH0 w.2 0 (w32 (l3 + 1)))) zp0 (zf0_12 (k := 30) rfl) rfl rfl rfl c1 rfl ?_
  refine g_al zp0 (zf0_12 (k := 31) rfl) rfl rfl (by decide) ?_
  refine g_il zp0 (zf0_12 (k := 32) rfl) rfl rfl ?_
  refine g_ic zp0 (zf0_12 (k := 33) rfl) rfl ?_
  refine g_ar (r := w32 (l3 + 2)) zp0 (zf0_12 (k := 34) rfl) rfl rfl ?_
  refine g_ald (v := zI (zH0 w.2 0 (w32 (l3 + 2)))) zp0 (zf0_12 (k := 35) rfl) rfl rfl rfl c2 rfl ?_
  refine g_callI (as := [zR 81, zI (zH0 w.2 0 (w32 (l3 + 1))), zI (zH0 w.2 0 (w32 (l3 + 2)))]) (rest := [zI x4]) zp0 (zf0_12 (k := 36) rfl) rfl (Nat.succ_pos _) rfl rfl (Nat.le_of_ble_eq_true rfl) (Nat.le_of_ble_eq_true rfl) rfl rfl h (fun x6 H5 h => ?_)
  refine g_icmp zp0 (zf0_12 (k := 39) rfl) rfl zc0 (fun c7 => ?_) (fun c7 => ?_)
  · replace h := h.1 c7
    exact g_weak (ls' := [zR 0, zR 32, zR 81, zI l3]) ⟨Or.inr rfl, Or.inr rfl, Or.inr rfl, Or.inr rfl, trivial⟩ h
  · replace h := h.2 c7
    refine g_ic zp0 (zf0_12 (k := 42) rfl) rfl ?_
    exact g_ret zp0 (zf0_12 (k := 43) rfl) (zret_b (by decide)) ⟨_, rfl, h⟩
set_option maxRecDepth 40000 in
theorem x0_1124 {w : zWt} {d : Nat} {H : zHt} {K : Int → zHt → Prop} {l3 : Int}
    (h : (0 ≤ (w32 (l3 + 1)) ∧ (w32 (l3 + 1)) < (w.1 : Int)) ∧ (0 ≤ (w32 (l3 + 2)) ∧ (w32 (l3 + 2)) < (w.1 : Int)) ∧ (0 ≤ (w32 (l3 + 3)) ∧ (w32 (l3 + 3)) < (w.1 : Int)) ∧ zclI w d 104 [zR 32, zI (zH0 w.2 0 (w32 (l3 + 1))), zI (zH0 w.2 0 (w32 (l3 + 2))), zI (zH0 w.2 0 (w32 (l3 + 3)))] H (fun x5 H4 => zclI w d 207 [zR 81, zI (zH0 w.2 0 (w32 (l3 + 1))), zI (zH0 w.2 0 (w32 (l3 + 2))), zI (zH0 w.2 0 (w32 (l3 + 3)))] H4 (fun x7 H6 => (x5 = x7 → zgo w (d + 1) 0 2245 [zR 0, zR 32, zR 81, zI l3] [] H6 (zQI K)) ∧ (¬ x5 = x7 → K 0 H6)))) :
    zgo w (d + 1) 0 1124 [zR 0, zR 32, zR 81, zI l3] [] H (zQI K) := by
  refine g_al zp0 (zf0_12 (k := 44) rfl) rfl rfl (by decide) ?_
  refine g_al zp0 (zf0_12 (k := 45) rfl) rfl rfl (by decide) ?_
  refine g_il zp0 (zf0_12 (k := 46) rfl) rfl rfl ?_
  refine g_ic zp0 (zf0_12 (k := 47) rfl) rfl ?_
  refine g_ar (r := w32 (l3 + 1)) zp0 (zf0_12 (k := 48) rfl) rfl rfl ?_
  obtain ⟨c1, h⟩ := h
  refine g_ald (v := zI (zH0 w.2 0 (w32 (l3 + 1)))) zp0 (zf0_12 (k := 49) rfl) rfl rfl rfl c1 rfl ?_
  refine g_al zp0 (zf0_12 (k := 50) rfl) rfl rfl (by decide) ?_
  refine g_il zp0 (zf0_12 (k := 51) rfl) rfl rfl ?_
  refine g_ic zp0 (zf0_12 (k := 52) rfl) rfl ?_
  refine g_ar (r := w32 (l3 + 2)) zp0 (zf0_12 (k := 53) rfl) rfl rfl ?_
  obtain ⟨c2, h⟩ := h
  refine g_ald (v := zI (zH0 w.2 0 (w32 (l3 + 2)))) zp0 (zf0_12 (k := 54) rfl) rfl rfl rfl c2 rfl ?_
  refine g_al zp0 (zf0_12 (k := 55) rfl) rfl rfl (by decide) ?_
  refine g_il zp0 (zf0_12 (k := 56) rfl) rfl rfl ?_
  refine g_ic zp0 (zf0_12 (k := 57) rfl) rfl ?_
  refine g_ar (r := w32 (l3 + 3)) zp0 (zf0_12 (k := 58) rfl) rfl rfl ?_
  obtain ⟨c3, h⟩ := h
  refine g_ald (v := zI (zH0 w.2 0 (w32 (l3 + 3)))) zp0 (zf0_12 (k := 59) rfl) rfl rfl rfl c3 rfl ?_
  refine g_callI (as := [zR 32, zI (zH0 w.2 0 (w32 (l3 + 1))), zI (zH0 w.2 0 (w32 (l3 + 2))), zI (zH0 w.2 0 (w32 (l3 + 3)))]) (rest := []) zp0 (zf0_12 (k := 60) rfl) rfl (Nat.succ_pos _) rfl rfl (Nat.le_of_ble_eq_true rfl) (Nat.le_of_ble_eq_true rfl) rfl rfl h (fun x5 H4 h => ?_)
  refine g_al zp0 (zf0_12 (k := 63) rfl) rfl rfl (by decide) ?_
  refine g_al zp0 (zf0_12 (k := 64) rfl) rfl rfl (by decide) ?_
  refine g_il zp0 (zf0_12 (k := 65) rfl) rfl rfl ?_
  refine g_ic zp0 (zf0_12 (k := 66) rfl) rfl ?_
  refine g_ar (r := w32 (l3 + 1)) zp0 (zf0_12 (k := 67) rfl) rfl rfl ?_
  refine g_ald (v := zI (zH0 w.2 0 (w32 (l3 + 1)))) zp0 (zf0_12 (k := 68) rfl) rfl rfl rfl c1 rfl ?_
  refine g_al zp0 (zf0_12 (k := 69) rfl) rfl rfl (by decide) ?_
  refine g_il zp0 (zf0_12 (k := 70) rfl) rfl rfl ?_
  refine g_ic zp0 (zf0_12 (k := 71) rfl) rfl ?_
  refine g_ar (r := w32 (l3 + 2)) zp0 (zf0_12 (k := 72) rfl) rfl rfl ?_
  refine g_ald (v := zI (zH0 w.2 0 (w32 (l3 + 2)))) zp0 (zf0_12 (k := 73) rfl) rfl rfl rfl c2 rfl ?_
  refine g_al zp0 (zf0_12 (k := 74) rfl) rfl rfl (by decide) ?_
  refine g_il zp0 (zf0_12 (k := 75) rfl) rfl rfl ?_
  refine g_ic zp0 (zf0_12 (k := 76) rfl) rfl ?_
  refine g_ar (r := w32 (l3 + 3)) zp0 (zf0_12 (k := 77) rfl) rfl rfl ?_
  refine g_ald (v := zI (zH0 w.2 0 (w32 (l3 + 3)))) zp0 (zf0_12 (k := 78) rfl) rfl rfl rfl c3 rfl ?_
  refine g_callI (as := [zR 81, zI (zH0 w.2 0 (w32 (l3 + 1))), zI (zH0 w.2 0 (w32 (l3 + 2))), zI (zH0 w.2 0 (w32 (l3 + 3)))]) (rest := [zI x5]) zp0 (zf0_12 (k := 79) rfl) rfl (Nat.succ_pos _) rfl rfl (Nat.le_of_ble_eq_true rfl) (Nat.le_of_ble_eq_true rfl) rfl rfl h (fun x7 H6 h => ?_)
  refine g_icmp zp0 (zf0_12 (k := 82) rfl) rfl zc0 (fun c8 => ?_) (fun c8 => ?_)
  · replace h := h.1 c8
    exact g_weak (ls' := [zR 0, zR 32, zR 81, zI l3]) ⟨Or.inr rfl, Or.inr rfl, Or.inr rfl, Or.inr rfl, trivial⟩ h
  · replace h := h.2 c8
    refine g_ic zp0 (zf0_12 (k := 85) rfl) rfl ?_
    exact g_ret zp0 (zf0_12 (k := 86) rfl) (zret_b (by decide)) ⟨_, rfl, h⟩
set_option maxRecDepth 40000 in
theorem x0_1167 {w : zWt} {d : Nat} {H : zHt} {K : Int → zHt → Prop} {l3 : Int}
    (h : (0 ≤ (w32 (l3 + 1)) ∧ (w32 (l3 + 1)) < (w.1 : Int)) ∧ zclI w d 105 [zR 32, zI (zH0 w.2 0 (w32 (l3 + 1)))] H (fun x3 H2 => zclI w d 221 [zR 81, zI (zH0 w.2 0 (w32 (l3 + 1)))] H2 (fun x5 H4 => (x3 = x5 → zgo w (d + 1) 0 2245 [zR 0, zR 32, zR 81, zI l3] [] H4 (zQI K)) ∧ (¬ x3 = x5 → K 0 H4)))) :
    zgo w (d + 1) 0 1167 [zR 0, zR 32, zR 81, zI l3] [] H (zQI K) := by
  refine g_al zp0 (zf0_12 (k := 87) rfl) rfl rfl (by decide) ?_
  refine g_al zp0 (zf0_12 (k := 88) rfl) rfl rfl (by decide) ?_
  refine g_il zp0 (zf0_12 (k := 89) rfl) rfl rfl ?_
  refine g_ic zp0 (zf0_13 (k := 0) rfl) rfl ?_
  refine g_ar (r := w32 (l3 + 1)) zp0 (zf0_13 (k := 1) rfl) rfl rfl ?_
  obtain ⟨c1, h⟩ := h
  refine g_ald (v := zI (zH0 w.2 0 (w32 (l3 + 1)))) zp0 (zf0_13 (k := 2) rfl) rfl rfl rfl c1 rfl ?_
  refine g_callI (as := [zR 32, zI (zH0 w.2 0 (w32 (l3 + 1)))]) (rest := []) zp0 (zf0_13 (k := 3) rfl) rfl (Nat.succ_pos _) rfl rfl (Nat.le_of_ble_eq_true rfl) (Nat.le_of_ble_eq_true rfl) rfl rfl h (fun x3 H2 h => ?_)
  refine g_al zp0 (zf0_13 (k := 6) rfl) rfl rfl (by decide) ?_
  refine g_al zp0 (zf0_13 (k := 7) rfl) rfl rfl (by decide) ?_
  refine g_il zp0 (zf0_13 (k := 8) rfl) rfl rfl ?_
  refine g_ic zp0 (zf0_13 (k := 9) rfl) rfl ?_
  refine g_ar (r := w32 (l3 + 1)) zp0 (zf0_13 (k := 10) rfl) rfl rfl ?_
  refine g_ald (v := zI (zH0 w.2 0 (w32 (l3 + 1)))) zp0 (zf0_13 (k := 11) rfl) rfl rfl rfl c1 rfl ?_
  refine g_callI (as := [zR 81, zI (zH0 w.2 0 (w32 (l3 + 1)))]) (rest := [zI x3]) zp0 (zf0_13 (k := 12) rfl) rfl (Nat.succ_pos _) rfl rfl (Nat.le_of_ble_eq_true rfl) (Nat.le_of_ble_eq_true rfl) rfl rfl h (fun x5 H4 h => ?_)
  refine g_icmp zp0 (zf0_13 (k := 15) rfl) rfl zc0 (fun c6 => ?_) (fun c6 => ?_)
  · replace h := h.1 c6
    exact g_weak (ls' := [zR 0, zR 32, zR 81, zI l3]) ⟨Or.inr rfl, Or.inr rfl, Or.inr rfl, Or.inr rfl, trivial⟩ h
  · replace h := h.2 c6
    refine g_ic zp0 (zf0_13 (k := 18) rfl) rfl ?_
    exact g_ret zp0 (zf0_13 (k := 19) rfl) (zret_b (by decide)) ⟨_, rfl, h⟩
set_option maxRecDepth 40000 in
theorem x0_1190 {w : zWt} {d : Nat} {H : zHt} {K : Int → zHt → Prop} {l3 : Int}
    (h : (0 ≤ (w32 (l3 + 1)) ∧ (w32 (l3 + 1)) < (w.1 : Int)) ∧ (0 ≤ (w32 (l3 + 2)) ∧ (w32 (l3 + 2)) < (w.1 : Int)) ∧ zclI w d 107 [zR 32, zI (zH0 w.2 0 (w32 (l3 + 1))), zI (zH0 w.2 0 (w32 (l3 + 2)))] H (fun x4 H3 => zclI w d 224 [zR 81, zI (zH0 w.2 0 (w32 (l3 + 1))), zI (zH0 w.2 0 (w32 (l3 + 2)))] H3 (fun x6 H5 => (x4 = x6 → zgo w (d + 1) 0 2245 [zR 0, zR 32, zR 81, zI l3] [] H5 (zQI K)) ∧ (¬ x4 = x6 → K 0 H5)))) :
    zgo w (d + 1) 0 1190 [zR 0, zR 32, zR 81, zI l3] [] H (zQI K) := by
  refine g_al zp0 (zf0_13 (k := 20) rfl) rfl rfl (by decide) ?_
  refine g_al zp0 (zf0_13 (k := 21) rfl) rfl rfl (by decide) ?_
  refine g_il zp0 (zf0_13 (k := 22) rfl) rfl rfl ?_
  refine g_ic zp0 (zf0_13 (k := 23) rfl) rfl ?_
  refine g_ar (r := w32 (l3 + 1)) zp0 (zf0_13 (k := 24) rfl) rfl rfl ?_
  obtain ⟨c1, h⟩ := h
  refine g_ald (v := zI (zH0 w.2 0 (w32 (l3 + 1)))) zp0 (zf0_13 (k := 25) rfl) rfl rfl rfl c1 rfl ?_
  refine g_al zp0 (zf0_13 (k := 26) rfl) rfl rfl (by decide) ?_
  refine g_il zp0 (zf0_13 (k := 27) rfl) rfl rfl ?_
  refine g_ic zp0 (zf0_13 (k := 28) rfl) rfl ?_
  refine g_ar (r := w32 (l3 + 2)) zp0 (zf0_13 (k := 29) rfl) rfl rfl ?_
  obtain ⟨c2, h⟩ := h
  refine g_ald (v := zI (zH0 w.2 0 (w32 (l3 + 2)))) zp0 (zf0_13 (k := 30) rfl) rfl rfl rfl c2 rfl ?_
  refine g_callI (as := [zR 32, zI (zH0 w.2 0 (w32 (l3 + 1))), zI (zH0 w.2 0 (w32 (l3 + 2)))]) (rest := []) zp0 (zf0_13 (k := 31) rfl) rfl (Nat.succ_pos _) rfl rfl (Nat.le_of_ble_eq_true rfl) (Nat.le_of_ble_eq_true rfl) rfl rfl h (fun x4 H3 h => ?_)
  refine g_al zp0 (zf0_13 (k := 34) rfl) rfl rfl (by decide) ?_
  refine g_al zp0 (zf0_13 (k := 35) rfl) rfl rfl (by decide) ?_
  refine g_il zp0 (zf0_13 (k := 36) rfl) rfl rfl ?_
  refine g_ic zp0 (zf0_13 (k := 37) rfl) rfl ?_
  refine g_ar (r := w32 (l3 + 1)) zp0 (zf0_13 (k := 38) rfl) rfl rfl ?_
  refine g_ald (v := zI (zH0 w.2 0 (w32 (l3 + 1)))) zp0 (zf0_13 (k := 39) rfl) rfl rfl rfl c1 rfl ?_
  refine g_al zp0 (zf0_13 (k := 40) rfl) rfl rfl (by decide) ?_
  refine g_il zp0 (zf0_13 (k := 41) rfl) rfl rfl ?_
  refine g_ic zp0 (zf0_13 (k := 42) rfl) rfl ?_
  refine g_ar (r := w32 (l3 + 2)) zp0 (zf0_13 (k := 43) rfl) rfl rfl ?_
  refine g_ald (v := zI (zH0 w.2 0 (w32 (l3 + 2)))) zp0 (zf0_13 (k := 44) rfl) rfl rfl rfl c2 rfl ?_
  refine g_callI (as := [zR 81, zI (zH0 w.2 0 (w32 (l3 + 1))), zI (zH0 w.2 0 (w32 (l3 + 2)))]) (rest := [zI x4]) zp0 (zf0_13 (k := 45) rfl) rfl (Nat.succ_pos _) rfl rfl (Nat.le_of_ble_eq_true rfl) (Nat.le_of_ble_eq_true rfl) rfl rfl h (fun x6 H5 h => ?_)
  refine g_icmp zp0 (zf0_13 (k := 48) rfl) rfl zc0 (fun c7 => ?_) (fun c7 => ?_)
  · replace h := h.1 c7
    exact g_weak (ls' := [zR 0, zR 32, zR 81, zI l3]) ⟨Or.inr rfl, Or.inr rfl, Or.inr rfl, Or.inr rfl, trivial⟩ h
  · replace h := h.2 c7
    refine g_ic zp0 (zf0_13 (k := 51) rfl) rfl ?_
    exact g_ret zp0 (zf0_13 (k := 52) rfl) (zret_b (by decide)) ⟨_, rfl, h⟩
set_option maxRecDepth 40000 in
theorem x0_1223 {w : zWt} {d : Nat} {H : zHt} {K : Int → zHt → Prop} {l3 : Int}
    (h : (0 ≤ (w32 (l3 + 1)) ∧ (w32 (l3 + 1)) < (w.1 : Int)) ∧ zclI w d 111 [zR 32, zI (zH0 w.2 0 (w32 (l3 + 1)))] H (fun x3 H2 => zclI w d 229 [zR 81, zI (zH0 w.2 0 (w32 (l3 + 1)))] H2 (fun x5 H4 => (x3 = x5 → zgo w (d + 1) 0 2245 [zR 0, zR 32, zR 81, zI l3] [] H4 (zQI K)) ∧ (¬ x3 = x5 → K 0 H4)))) :
    zgo w (d + 1) 0 1223 [zR 0, zR 32, zR 81, zI l3] [] H (zQI K) := by
  refine g_al zp0 (zf0_13 (k := 53) rfl) rfl rfl (by decide) ?_
  refine g_al zp0 (zf0_13 (k := 54) rfl) rfl rfl (by decide) ?_
  refine g_il zp0 (zf0_13 (k := 55) rfl) rfl rfl ?_
  refine g_ic zp0 (zf0_13 (k := 56) rfl) rfl ?_
  refine g_ar (r := w32 (l3 + 1)) zp0 (zf0_13 (k := 57) rfl) rfl rfl ?_
  obtain ⟨c1, h⟩ := h
  refine g_ald (v := zI (zH0 w.2 0 (w32 (l3 + 1)))) zp0 (zf0_13 (k := 58) rfl) rfl rfl rfl c1 rfl ?_
  refine g_callI (as := [zR 32, zI (zH0 w.2 0 (w32 (l3 + 1)))]) (rest := []) zp0 (zf0_13 (k := 59) rfl) rfl (Nat.succ_pos _) rfl rfl (Nat.le_of_ble_eq_true rfl) (Nat.le_of_ble_eq_true rfl) rfl rfl h (fun x3 H2 h => ?_)
  refine g_al zp0 (zf0_13 (k := 62) rfl) rfl rfl (by decide) ?_
  refine g_al zp0 (zf0_13 (k := 63) rfl) rfl rfl (by decide) ?_
  refine g_il zp0 (zf0_13 (k := 64) rfl) rfl rfl ?_
  refine g_ic zp0 (zf0_13 (k := 65) rfl) rfl ?_
  refine g_ar (r := w32 (l3 + 1)) zp0 (zf0_13 (k := 66) rfl) rfl rfl ?_
  refine g_ald (v := zI (zH0 w.2 0 (w32 (l3 + 1)))) zp0 (zf0_13 (k := 67) rfl) rfl rfl rfl c1 rfl ?_
  refine g_callI (as := [zR 81, zI (zH0 w.2 0 (w32 (l3 + 1)))]) (rest := [zI x3]) zp0 (zf0_13 (k := 68) rfl) rfl (Nat.succ_pos _) rfl rfl (Nat.le_of_ble_eq_true rfl) (Nat.le_of_ble_eq_true rfl) rfl rfl h (fun x5 H4 h => ?_)
  refine g_icmp zp0 (zf0_13 (k := 71) rfl) rfl zc0 (fun c6 => ?_) (fun c6 => ?_)
  · replace h := h.1 c6
    exact g_weak (ls' := [zR 0, zR 32, zR 81, zI l3]) ⟨Or.inr rfl, Or.inr rfl, Or.inr rfl, Or.inr rfl, trivial⟩ h
  · replace h := h.2 c6
    refine g_ic zp0 (zf0_13 (k := 74) rfl) rfl ?_
    exact g_ret zp0 (zf0_13 (k := 75) rfl) (zret_b (by decide)) ⟨_, rfl, h⟩
set_option maxRecDepth 40000 in
theorem x0_1246 {w : zWt} {d : Nat} {H : zHt} {K : Int → zHt → Prop} {l3 : Int}
    (h : (0 ≤ (w32 (l3 + 1)) ∧ (w32 (l3 + 1)) < (w.1 : Int)) ∧ (0 ≤ (w32 (l3 + 2)) ∧ (w32 (l3 + 2)) < (w.1 : Int)) ∧ zclI w d 112 [zR 32, zI (zH0 w.2 0 (w32 (l3 + 1))), zI (zH0 w.2 0 (w32 (l3 + 2)))] H (fun x4 H3 => zclI w d 230 [zR 81, zI (zH0 w.2 0 (w32 (l3 + 1))), zI (zH0 w.2 0 (w32 (l3 + 2)))] H3 (fun x6 H5 => (x4 = x6 → zgo w (d + 1) 0 2245 [zR 0, zR 32, zR 81, zI l3] [] H5 (zQI K)) ∧ (¬ x4 = x6 → K 0 H5)))) :
    zgo w (d + 1) 0 1246 [zR 0, zR 32, zR 81, zI l3] [] H (zQI K) := by
  refine g_al zp0 (zf0_13 (k := 76) rfl) rfl rfl (by decide) ?_
  refine g_al zp0 (zf0_13 (k := 77) rfl) rfl rfl (by decide) ?_
  refine g_il zp0 (zf0_13 (k := 78) rfl) rfl rfl ?_
  refine g_ic zp0 (zf0_13 (k := 79) rfl) rfl ?_
  refine g_ar (r := w32 (l3 + 1)) zp0 (zf0_13 (k := 80) rfl) rfl rfl ?_
  obtain ⟨c1, h⟩ := h
  refine g_ald (v := zI (zH0 w.2 0 (w32 (l3 + 1)))) zp0 (zf0_13 (k := 81) rfl) rfl rfl rfl c1 rfl ?_
  refine g_al zp0 (zf0_13 (k := 82) rfl) rfl rfl (by decide) ?_
  refine g_il zp0 (zf0_13 (k := 83) rfl) rfl rfl ?_
  refine g_ic zp0 (zf0_13 (k := 84) rfl) rfl ?_
  refine g_ar (r := w32 (l3 + 2)) zp0 (zf0_13 (k := 85) rfl) rfl rfl ?_
  obtain ⟨c2, h⟩ := h
  refine g_ald (v := zI (zH0 w.2 0 (w32 (l3 + 2)))) zp0 (zf0_13 (k := 86) rfl) rfl rfl rfl c2 rfl ?_
  refine g_callI (as := [zR 32, zI (zH0 w.2 0 (w32 (l3 + 1))), zI (zH0 w.2 0 (w32 (l3 + 2)))]) (rest := []) zp0 (zf0_13 (k := 87) rfl) rfl (Nat.succ_pos _) rfl rfl (Nat.le_of_ble_eq_true rfl) (Nat.le_of_ble_eq_true rfl) rfl rfl h (fun x4 H3 h => ?_)
  refine g_al zp0 (zf0_14 (k := 0) rfl) rfl rfl (by decide) ?_
  refine g_al zp0 (zf0_14 (k := 1) rfl) rfl rfl (by decide) ?_
  refine g_il zp0 (zf0_14 (k := 2) rfl) rfl rfl ?_
  refine g_ic zp0 (zf0_14 (k := 3) rfl) rfl ?_
  refine g_ar (r := w32 (l3 + 1)) zp0 (zf0_14 (k := 4) rfl) rfl rfl ?_
  refine g_ald (v := zI (zH0 w.2 0 (w32 (l3 + 1)))) zp0 (zf0_14 (k := 5) rfl) rfl rfl rfl c1 rfl ?_
  refine g_al zp0 (zf0_14 (k := 6) rfl) rfl rfl (by decide) ?_
  refine g_il zp0 (zf0_14 (k := 7) rfl) rfl rfl ?_
  refine g_ic zp0 (zf0_14 (k := 8) rfl) rfl ?_
  refine g_ar (r := w32 (l3 + 2)) zp0 (zf0_14 (k := 9) rfl) rfl rfl ?_
  refine g_ald (v := zI (zH0 w.2 0 (w32 (l3 + 2)))) zp0 (zf0_14 (k := 10) rfl) rfl rfl rfl c2 rfl ?_
  refine g_callI (as := [zR 81, zI (zH0 w.2 0 (w32 (l3 + 1))), zI (zH0 w.2 0 (w32 (l3 + 2)))]) (rest := [zI x4]) zp0 (zf0_14 (k := 11) rfl) rfl (Nat.succ_pos _) rfl rfl (Nat.le_of_ble_eq_true rfl) (Nat.le_of_ble_eq_true rfl) rfl rfl h (fun x6 H5 h => ?_)
  refine g_icmp zp0 (zf0_14 (k := 14) rfl) rfl zc0 (fun c7 => ?_) (fun c7 => ?_)
  · replace h := h.1 c7
    exact g_weak (ls' := [zR 0, zR 32, zR 81, zI l3]) ⟨Or.inr rfl, Or.inr rfl, Or.inr rfl, Or.inr rfl, trivial⟩ h
  · replace h := h.2 c7
    refine g_ic zp0 (zf0_14 (k := 17) rfl) rfl ?_
    exact g_ret zp0 (zf0_14 (k := 18) rfl) (zret_b (by decide)) ⟨_, rfl, h⟩
set_option maxRecDepth 40000 in
theorem x0_1279 {w : zWt} {d : Nat} {H : zHt} {K : Int → zHt → Prop} {l3 : Int}
    (h : (0 ≤ (w32 (l3 + 1)) ∧ (w32 (l3 + 1)) < (w.1 : Int)) ∧ (0 ≤ (w32 (l3 + 2)) ∧ (w32 (l3 + 2)) < (w.1 : Int)) ∧ zclI w d 115 [zR 32, zI (zH0 w.2 0 (w32 (l3 + 1))), zI (zH0 w.2 0 (w32 (l3 + 2)))] H (fun x4 H3 => zclI w d 232 [zR 81, zI (zH0 w.2 0 (w32 (l3 + 1))), zI (zH0 w.2 0 (w32 (l3 + 2)))] H3 (fun x6 H5 => (x4 = x6 → zgo w (d + 1) 0 2245 [zR 0, zR 32, zR 81, zI l3] [] H5 (zQI K)) ∧ (¬ x4 = x6 → K 0 H5)))) :
    zgo w (d + 1) 0 1279 [zR 0, zR 32, zR 81, zI l3] [] H (zQI K) := by
  refine g_al zp0 (zf0_14 (k := 19) rfl) rfl rfl (by decide) ?_
  refine g_al zp0 (zf0_14 (k := 20) rfl) rfl rfl (by decide) ?_
  refine g_il zp0 (zf0_14 (k := 21) rfl) rfl rfl ?_
  refine g_ic zp0 (zf0_14 (k := 22) rfl) rfl ?_
  refine g_ar (r := w32 (l3 + 1)) zp0 (zf0_14 (k := 23) rfl) rfl rfl ?_
  obtain ⟨c1, h⟩ := h
  refine g_ald (v := zI (zH0 w.2 0 (w32 (l3 + 1)))) zp0 (zf0_14 (k := 24) rfl) rfl rfl rfl c1 rfl ?_
  refine g_al zp0 (zf0_14 (k := 25) rfl) rfl rfl (by decide) ?_
  refine g_il zp0 (zf0_14 (k := 26) rfl) rfl rfl ?_
  refine g_ic zp0 (zf0_14 (k := 27) rfl) rfl ?_
  refine g_ar (r := w32 (l3 + 2)) zp0 (zf0_14 (k := 28) rfl) rfl rfl ?_
  obtain ⟨c2, h⟩ := h
  refine g_ald (v := zI (zH0 w.2 0 (w32 (l3 + 2)))) zp0 (zf0_14 (k := 29) rfl) rfl rfl rfl c2 rfl ?_
  refine g_callI (as := [zR 32, zI (zH0 w.2 0 (w32 (l3 + 1))), zI (zH0 w.2 0 (w32 (l3 + 2)))]) (rest := []) zp0 (zf0_14 (k := 30) rfl) rfl (Nat.succ_pos _) rfl rfl (Nat.le_of_ble_eq_true rfl) (Nat.le_of_ble_eq_true rfl) rfl rfl h (fun x4 H3 h => ?_)
  refine g_al zp0 (zf0_14 (k := 33) rfl) rfl rfl (by decide) ?_
  refine g_al zp0 (zf0_14 (k := 34) rfl) rfl rfl (by decide) ?_
  refine g_il zp0 (zf0_14 (k := 35) rfl) rfl rfl ?_
  refine g_ic zp0 (zf0_14 (k := 36) rfl) rfl ?_
  refine g_ar (r := w32 (l3 + 1)) zp0 (zf0_14 (k := 37) rfl) rfl rfl ?_
  refine g_ald (v := zI (zH0 w.2 0 (w32 (l3 + 1)))) zp0 (zf0_14 (k := 38) rfl) rfl rfl rfl c1 rfl ?_
  refine g_al zp0 (zf0_14 (k := 39) rfl) rfl rfl (by decide) ?_
  refine g_il zp0 (zf0_14 (k := 40) rfl) rfl rfl ?_
  refine g_ic zp0 (zf0_14 (k := 41) rfl) rfl ?_
  refine g_ar (r := w32 (l3 + 2)) zp0 (zf0_14 (k := 42) rfl) rfl rfl ?_
  refine g_ald (v := zI (zH0 w.2 0 (w32 (l3 + 2)))) zp0 (zf0_14 (k := 43) rfl) rfl rfl rfl c2 rfl ?_
  refine g_callI (as := [zR 81, zI (zH0 w.2 0 (w32 (l3 + 1))), zI (zH0 w.2 0 (w32 (l3 + 2)))]) (rest := [zI x4]) zp0 (zf0_14 (k := 44) rfl) rfl (Nat.succ_pos _) rfl rfl (Nat.le_of_ble_eq_true rfl) (Nat.le_of_ble_eq_true rfl) rfl rfl h (fun x6 H5 h => ?_)
  refine g_icmp zp0 (zf0_14 (k := 47) rfl) rfl zc0 (fun c7 => ?_) (fun c7 => ?_)
  · replace h := h.1 c7
    exact g_weak (ls' := [zR 0, zR 32, zR 81, zI l3]) ⟨Or.inr rfl, Or.inr rfl, Or.inr rfl, Or.inr rfl, trivial⟩ h
  · replace h := h.2 c7
    refine g_ic zp0 (zf0_14 (k := 50) rfl) rfl ?_
    exact g_ret zp0 (zf0_14 (k := 51) rfl) (zret_b (by decide)) ⟨_, rfl, h⟩
set_option maxRecDepth 40000 in
theorem x0_1312 {w : zWt} {d : Nat} {H : zHt} {K : Int → zHt → Prop} {l3 : Int}
    (h : (0 ≤ (w32 (l3 + 1)) ∧ (w32 (l3 + 1)) < (w.1 : Int)) ∧ (0 ≤ (w32 (l3 + 2)) ∧ (w32 (l3 + 2)) < (w.1 : Int)) ∧ zclI w d 117 [zR 32, zI (zH0 w.2 0 (w32 (l3 + 1))), zI (zH0 w.2 0 (w32 (l3 + 2)))] H (fun x4 H3 => zclI w d 234 [zR 81, zI (zH0 w.2 0 (w32 (l3 + 1))), zI (zH0 w.2 0 (w32 (l3 + 2)))] H3 (fun x6 H5 => (x4 = x6 → zgo w (d + 1) 0 2245 [zR 0, zR 32, zR 81, zI l3] [] H5 (zQI K)) ∧ (¬ x4 = x6 → K 0 H5)))) :
    zgo w (d + 1) 0 1312 [zR 0, zR 32, zR 81, zI l3] [] H (zQI K) := by
  refine g_al zp0 (zf0_14 (k := 52) rfl) rfl rfl (by decide) ?_
  refine g_al zp0 (zf0_14 (k := 53) rfl) rfl rfl (by decide) ?_
  refine g_il zp0 (zf0_14 (k := 54) rfl) rfl rfl ?_
  refine g_ic zp0 (zf0_14 (k := 55) rfl) rfl ?_
  refine g_ar (r := w32 (l3 + 1)) zp0 (zf0_14 (k := 56) rfl) rfl rfl ?_
  obtain ⟨c1, h⟩ := h
  refine g_ald (v := zI (zH0 w.2 0 (w32 (l3 + 1)))) zp0 (zf0_14 (k := 57) rfl) rfl rfl rfl c1 rfl ?_
  refine g_al zp0 (zf0_14 (k := 58) rfl) rfl rfl (by decide) ?_
  refine g_il zp0 (zf0_14 (k := 59) rfl) rfl rfl ?_
  refine g_ic zp0 (zf0_14 (k := 60) rfl) rfl ?_
  refine g_ar (r := w32 (l3 + 2)) zp0 (zf0_14 (k := 61) rfl) rfl rfl ?_
  obtain ⟨c2, h⟩ := h
  refine g_ald (v := zI (zH0 w.2 0 (w32 (l3 + 2)))) zp0 (zf0_14 (k := 62) rfl) rfl rfl rfl c2 rfl ?_
  refine g_callI (as := [zR 32, zI (zH0 w.2 0 (w32 (l3 + 1))), zI (zH0 w.2 0 (w32 (l3 + 2)))]) (rest := []) zp0 (zf0_14 (k := 63) rfl) rfl (Nat.succ_pos _) rfl rfl (Nat.le_of_ble_eq_true rfl) (Nat.le_of_ble_eq_true rfl) rfl rfl h (fun x4 H3 h => ?_)
  refine g_al zp0 (zf0_14 (k := 66) rfl) rfl rfl (by decide) ?_
  refine g_al zp0 (zf0_14 (k := 67) rfl) rfl rfl (by decide) ?_
  refine g_il zp0 (zf0_14 (k := 68) rfl) rfl rfl ?_
  refine g_ic zp0 (zf0_14 (k := 69) rfl) rfl ?_
  refine g_ar (r := w32 (l3 + 1)) zp0 (zf0_14 (k := 70) rfl) rfl rfl ?_
  refine g_ald (v := zI (zH0 w.2 0 (w32 (l3 + 1)))) zp0 (zf0_14 (k := 71) rfl) rfl rfl rfl c1 rfl ?_
  refine g_al zp0 (zf0_14 (k := 72) rfl) rfl rfl (by decide) ?_
  refine g_il zp0 (zf0_14 (k := 73) rfl) rfl rfl ?_
  refine g_ic zp0 (zf0_14 (k := 74) rfl) rfl ?_
  refine g_ar (r := w32 (l3 + 2)) zp0 (zf0_14 (k := 75) rfl) rfl rfl ?_
  refine g_ald (v := zI (zH0 w.2 0 (w32 (l3 + 2)))) zp0 (zf0_14 (k := 76) rfl) rfl rfl rfl c2 rfl ?_
  refine g_callI (as := [zR 81, zI (zH0 w.2 0 (w32 (l3 + 1))), zI (zH0 w.2 0 (w32 (l3 + 2)))]) (rest := [zI x4]) zp0 (zf0_14 (k := 77) rfl) rfl (Nat.succ_pos _) rfl rfl (Nat.le_of_ble_eq_true rfl) (Nat.le_of_ble_eq_true rfl) rfl rfl h (fun x6 H5 h => ?_)
  refine g_icmp zp0 (zf0_14 (k := 80) rfl) rfl zc0 (fun c7 => ?_) (fun c7 => ?_)
  · replace h := h.1 c7
    exact g_weak (ls' := [zR 0, zR 32, zR 81, zI l3]) ⟨Or.inr rfl, Or.inr rfl, Or.inr rfl, Or.inr rfl, trivial⟩ h
  · replace h := h.2 c7
    refine g_ic zp0 (zf0_14 (k := 83) rfl) rfl ?_
    exact g_ret zp0 (zf0_14 (k := 84) rfl) (zret_b (by decide)) ⟨_, rfl, h⟩
set_option maxRecDepth 40000 in
theorem x0_1345 {w : zWt} {d : Nat} {H : zHt} {K : Int → zHt → Prop} {l3 : Int}
    (h : (0 ≤ (w32 (l3 + 1)) ∧ (w32 (l3 + 1)) < (w.1 : Int)) ∧ (0 ≤ (w32 (l3 + 2)) ∧ (w32 (l3 + 2)) < (w.1 : Int)) ∧ zclL w d 120 [zR 32, zI (zH0 w.2 0 (w32 (l3 + 1))), zI (zH0 w.2 0 (w32 (l3 + 2)))] H (fun x4 H3 => zclL w d 235 [zR 81, zI (zH0 w.2 0 (w32 (l3 + 1))), zI (zH0 w.2 0 (w32 (l3 + 2)))] H3 (fun x6 H5 => (x4 = x6 → zgo w (d + 1) 0 2245 [zR 0, zR 32, zR 81, zI l3] [] H5 (zQI K)) ∧ (¬ x4 = x6 → K 0 H5)))) :
    zgo w (d + 1) 0 1345 [zR 0, zR 32, zR 81, zI l3] [] H (zQI K) := by
  refine g_al zp0 (zf0_14 (k := 85) rfl) rfl rfl (by decide) ?_
  refine g_al zp0 (zf0_14 (k := 86) rfl) rfl rfl (by decide) ?_
  refine g_il zp0 (zf0_14 (k := 87) rfl) rfl rfl ?_
  refine g_ic zp0 (zf0_14 (k := 88) rfl) rfl ?_
  refine g_ar (r := w32 (l3 + 1)) zp0 (zf0_14 (k := 89) rfl) rfl rfl ?_
  obtain ⟨c1, h⟩ := h
  refine g_ald (v := zI (zH0 w.2 0 (w32 (l3 + 1)))) zp0 (zf0_15 (k := 0) rfl) rfl rfl rfl c1 rfl ?_
  refine g_al zp0 (zf0_15 (k := 1) rfl) rfl rfl (by decide) ?_
  refine g_il zp0 (zf0_15 (k := 2) rfl) rfl rfl ?_
  refine g_ic zp0 (zf0_15 (k := 3) rfl) rfl ?_
  refine g_ar (r := w32 (l3 + 2)) zp0 (zf0_15 (k := 4) rfl) rfl rfl ?_
  obtain ⟨c2, h⟩ := h
  refine g_ald (v := zI (zH0 w.2 0 (w32 (l3 + 2)))) zp0 (zf0_15 (k := 5) rfl) rfl rfl rfl c2 rfl ?_
  refine g_callL (as := [zR 32, zI (zH0 w.2 0 (w32 (l3 + 1))), zI (zH0 w.2 0 (w32 (l3 + 2)))]) (rest := []) zp0 (zf0_15 (k := 6) rfl) rfl (Nat.succ_pos _) rfl rfl (Nat.le_of_ble_eq_true rfl) (Nat.le_of_ble_eq_true rfl) rfl rfl h (fun x4 H3 h => ?_)
  refine g_al zp0 (zf0_15 (k := 9) rfl) rfl rfl (by decide) ?_
  refine g_al zp0 (zf0_15 (k := 10) rfl) rfl rfl (by decide) ?_
  refine g_il zp0 (zf0_15 (k := 11) rfl) rfl rfl ?_
  refine g_ic zp0 (zf0_15 (k := 12) rfl) rfl ?_
  refine g_ar (r := w32 (l3 + 1)) zp0 (zf0_15 (k := 13) rfl) rfl rfl ?_
  refine g_ald (v := zI (zH0 w.2 0 (w32 (l3 + 1)))) zp0 (zf0_15 (k := 14) rfl) rfl rfl rfl c1 rfl ?_
  refine g_al zp0 (zf0_15 (k := 15) rfl) rfl rfl (by decide) ?_
  refine g_il zp0 (zf0_15 (k := 16) rfl) rfl rfl ?_
  refine g_ic zp0 (zf0_15 (k := 17) rfl) rfl ?_
  refine g_ar (r := w32 (l3 + 2)) zp0 (zf0_15 (k := 18) rfl) rfl rfl ?_
  refine g_ald (v := zI (zH0 w.2 0 (w32 (l3 + 2)))) zp0 (zf0_15 (k := 19) rfl) rfl rfl rfl c2 rfl ?_
  refine g_callL (as := [zR 81, zI (zH0 w.2 0 (w32 (l3 + 1))), zI (zH0 w.2 0 (w32 (l3 + 2)))]) (rest := [zL x4]) zp0 (zf0_15 (k := 20) rfl) rfl (Nat.succ_pos _) rfl rfl (Nat.le_of_ble_eq_true rfl) (Nat.le_of_ble_eq_true rfl) rfl rfl h (fun x6 H5 h => ?_)
  refine g_lcmp zp0 (zf0_15 (k := 23) rfl) rfl (zf0_15 (k := 24) rfl) rfl zc0 (fun c7 => ?_) (fun c7 => ?_)
  · replace h := h.1 c7
    exact g_weak (ls' := [zR 0, zR 32, zR 81, zI l3]) ⟨Or.inr rfl, Or.inr rfl, Or.inr rfl, Or.inr rfl, trivial⟩ h
  · replace h := h.2 c7
    refine g_ic zp0 (zf0_15 (k := 27) rfl) rfl ?_
    exact g_ret zp0 (zf0_15 (k := 28) rfl) (zret_b (by decide)) ⟨_, rfl, h⟩
set_option maxRecDepth 40000 in
theorem x0_1379 {w : zWt} {d : Nat} {H : zHt} {K : Int → zHt → Prop} {l3 : Int}
    (h : (0 ≤ (w32 (l3 + 1)) ∧ (w32 (l3 + 1)) < (w.1 : Int)) ∧ (0 ≤ (w32 (l3 + 2)) ∧ (w32 (l3 + 2)) < (w.1 : Int)) ∧ zclI w d 121 [zR 32, zI (zH0 w.2 0 (w32 (l3 + 1))), zI (zH0 w.2 0 (w32 (l3 + 2)))] H (fun x4 H3 => zclI w d 236 [zR 81, zI (zH0 w.2 0 (w32 (l3 + 1))), zI (zH0 w.2 0 (w32 (l3 + 2)))] H3 (fun x6 H5 => (x4 = x6 → zgo w (d + 1) 0 2245 [zR 0, zR 32, zR 81, zI l3] [] H5 (zQI K)) ∧ (¬ x4 = x6 → K 0 H5)))) :
    zgo w (d + 1) 0 1379 [zR 0, zR 32, zR 81, zI l3] [] H (zQI K) := by
  refine g_al zp0 (zf0_15 (k := 29) rfl) rfl rfl (by decide) ?_
  refine g_al zp0 (zf0_15 (k := 30) rfl) rfl rfl (by decide) ?_
  refine g_il zp0 (zf0_15 (k := 31) rfl) rfl rfl ?_
  refine g_ic zp0 (zf0_15 (k := 32) rfl) rfl ?_
  refine g_ar (r := w32 (l3 + 1)) zp0 (zf0_15 (k := 33) rfl) rfl rfl ?_
  obtain ⟨c1, h⟩ := h
  refine g_ald (v := zI (zH0 w.2 0 (w32 (l3 + 1)))) zp0 (zf0_15 (k := 34) rfl) rfl rfl rfl c1 rfl ?_
  refine g_al zp0 (zf0_15 (k := 35) rfl) rfl rfl (by decide) ?_
  refine g_il zp0 (zf0_15 (k := 36) rfl) rfl rfl ?_
  refine g_ic zp0 (zf0_15 (k := 37) rfl) rfl ?_
  refine g_ar (r := w32 (l3 + 2)) zp0 (zf0_15 (k := 38) rfl) rfl rfl ?_
  obtain ⟨c2, h⟩ := h
  refine g_ald (v := zI (zH0 w.2 0 (w32 (l3 + 2)))) zp0 (zf0_15 (k := 39) rfl) rfl rfl rfl c2 rfl ?_
  refine g_callI (as := [zR 32, zI (zH0 w.2 0 (w32 (l3 + 1))), zI (zH0 w.2 0 (w32 (l3 + 2)))]) (rest := []) zp0 (zf0_15 (k := 40) rfl) rfl (Nat.succ_pos _) rfl rfl (Nat.le_of_ble_eq_true rfl) (Nat.le_of_ble_eq_true rfl) rfl rfl h (fun x4 H3 h => ?_)
  refine g_al zp0 (zf0_15 (k := 43) rfl) rfl rfl (by decide) ?_
  refine g_al zp0 (zf0_15 (k := 44) rfl) rfl rfl (by decide) ?_
  refine g_il zp0 (zf0_15 (k := 45) rfl) rfl rfl ?_
  refine g_ic zp0 (zf0_15 (k := 46) rfl) rfl ?_
  refine g_ar (r := w32 (l3 + 1)) zp0 (zf0_15 (k := 47) rfl) rfl rfl ?_
  refine g_ald (v := zI (zH0 w.2 0 (w32 (l3 + 1)))) zp0 (zf0_15 (k := 48) rfl) rfl rfl rfl c1 rfl ?_
  refine g_al zp0 (zf0_15 (k := 49) rfl) rfl rfl (by decide) ?_
  refine g_il zp0 (zf0_15 (k := 50) rfl) rfl rfl ?_
  refine g_ic zp0 (zf0_15 (k := 51) rfl) rfl ?_
  refine g_ar (r := w32 (l3 + 2)) zp0 (zf0_15 (k := 52) rfl) rfl rfl ?_
  refine g_ald (v := zI (zH0 w.2 0 (w32 (l3 + 2)))) zp0 (zf0_15 (k := 53) rfl) rfl rfl rfl c2 rfl ?_
  refine g_callI (as := [zR 81, zI (zH0 w.2 0 (w32 (l3 + 1))), zI (zH0 w.2 0 (w32 (l3 + 2)))]) (rest := [zI x4]) zp0 (zf0_15 (k := 54) rfl) rfl (Nat.succ_pos _) rfl rfl (Nat.le_of_ble_eq_true rfl) (Nat.le_of_ble_eq_true rfl) rfl rfl h (fun x6 H5 h => ?_)
  refine g_icmp zp0 (zf0_15 (k := 57) rfl) rfl zc0 (fun c7 => ?_) (fun c7 => ?_)
  · replace h := h.1 c7
    exact g_weak (ls' := [zR 0, zR 32, zR 81, zI l3]) ⟨Or.inr rfl, Or.inr rfl, Or.inr rfl, Or.inr rfl, trivial⟩ h
  · replace h := h.2 c7
    refine g_ic zp0 (zf0_15 (k := 60) rfl) rfl ?_
    exact g_ret zp0 (zf0_15 (k := 61) rfl) (zret_b (by decide)) ⟨_, rfl, h⟩
set_option maxRecDepth 40000 in
theorem x0_1412 {w : zWt} {d : Nat} {H : zHt} {K : Int → zHt → Prop} {l3 : Int}
    (h : (0 ≤ (w32 (l3 + 1)) ∧ (w32 (l3 + 1)) < (w.1 : Int)) ∧ (0 ≤ (w32 (l3 + 2)) ∧ (w32 (l3 + 2)) < (w.1 : Int)) ∧ zclI w d 122 [zR 32, zI (zH0 w.2 0 (w32 (l3 + 1))), zI (zH0 w.2 0 (w32 (l3 + 2)))] H (fun x4 H3 => zclI w d 237 [zR 81, zI (zH0 w.2 0 (w32 (l3 + 1))), zI (zH0 w.2 0 (w32 (l3 + 2)))] H3 (fun x6 H5 => (x4 = x6 → zgo w (d + 1) 0 2245 [zR 0, zR 32, zR 81, zI l3] [] H5 (zQI K)) ∧ (¬ x4 = x6 → K 0 H5)))) :
    zgo w (d + 1) 0 1412 [zR 0, zR 32, zR 81, zI l3] [] H (zQI K) := by
  refine g_al zp0 (zf0_15 (k := 62) rfl) rfl rfl (by decide) ?_
  refine g_al zp0 (zf0_15 (k := 63) rfl) rfl rfl (by decide) ?_
  refine g_il zp0 (zf0_15 (k := 64) rfl) rfl rfl ?_
  refine g_ic zp0 (zf0_15 (k := 65) rfl) rfl ?_
  refine g_ar (r := w32 (l3 + 1)) zp0 (zf0_15 (k := 66) rfl) rfl rfl ?_
  obtain ⟨c1, h⟩ := h
  refine g_ald (v := zI (zH0 w.2 0 (w32 (l3 + 1)))) zp0 (zf0_15 (k := 67) rfl) rfl rfl rfl c1 rfl ?_
  refine g_al zp0 (zf0_15 (k := 68) rfl) rfl rfl (by decide) ?_
  refine g_il zp0 (zf0_15 (k := 69) rfl) rfl rfl ?_
  refine g_ic zp0 (zf0_15 (k := 70) rfl) rfl ?_
  refine g_ar (r := w32 (l3 + 2)) zp0 (zf0_15 (k := 71) rfl) rfl rfl ?_
  obtain ⟨c2, h⟩ := h
  refine g_ald (v := zI (zH0 w.2 0 (w32 (l3 + 2)))) zp0 (zf0_15 (k := 72) rfl) rfl rfl rfl c2 rfl ?_
  refine g_callI (as := [zR 32, zI (zH0 w.2 0 (w32 (l3 + 1))), zI (zH0 w.2 0 (w32 (l3 + 2)))]) (rest := []) zp0 (zf0_15 (k := 73) rfl) rfl (Nat.succ_pos _) rfl rfl (Nat.le_of_ble_eq_true rfl) (Nat.le_of_ble_eq_true rfl) rfl rfl h (fun x4 H3 h => ?_)
  refine g_al zp0 (zf0_15 (k := 76) rfl) rfl rfl (by decide) ?_
  refine g_al zp0 (zf0_15 (k := 77) rfl) rfl rfl (by decide) ?_
  refine g_il zp0 (zf0_15 (k := 78) rfl) rfl rfl ?_
  refine g_ic zp0 (zf0_15 (k := 79) rfl) rfl ?_
  refine g_ar (r := w32 (l3 + 1)) zp0 (zf0_15 (k := 80) rfl) rfl rfl ?_
  refine g_ald (v := zI (zH0 w.2 0 (w32 (l3 + 1)))) zp0 (zf0_15 (k := 81) rfl) rfl rfl rfl c1 rfl ?_
  refine g_al zp0 (zf0_15 (k := 82) rfl) rfl rfl (by decide) ?_
  refine g_il zp0 (zf0_15 (k := 83) rfl) rfl rfl ?_
  refine g_ic zp0 (zf0_15 (k := 84) rfl) rfl ?_
  refine g_ar (r := w32 (l3 + 2)) zp0 (zf0_15 (k := 85) rfl) rfl rfl ?_
  refine g_ald (v := zI (zH0 w.2 0 (w32 (l3 + 2)))) zp0 (zf0_15 (k := 86) rfl) rfl rfl rfl c2 rfl ?_
  refine g_callI (as := [zR 81, zI (zH0 w.2 0 (w32 (l3 + 1))), zI (zH0 w.2 0 (w32 (l3 + 2)))]) (rest := [zI x4]) zp0 (zf0_15 (k := 87) rfl) rfl (Nat.succ_pos _) rfl rfl (Nat.le_of_ble_eq_true rfl) (Nat.le_of_ble_eq_true rfl) rfl rfl h (fun x6 H5 h => ?_)
  refine g_icmp zp0 (zf0_16 (k := 0) rfl) rfl zc0 (fun c7 => ?_) (fun c7 => ?_)
  · replace h := h.1 c7
    exact g_weak (ls' := [zR 0, zR 32, zR 81, zI l3]) ⟨Or.inr rfl, Or.inr rfl, Or.inr rfl, Or.inr rfl, trivial⟩ h
  · replace h := h.2 c7
    refine g_ic zp0 (zf0_16 (k := 3) rfl) rfl ?_
    exact g_ret zp0 (zf0_16 (k := 4) rfl) (zret_b (by decide)) ⟨_, rfl, h⟩
set_option maxRecDepth 40000 in
theorem x0_1445 {w : zWt} {d : Nat} {H : zHt} {K : Int → zHt → Prop} {l3 : Int}
    (h : (0 ≤ (w32 (l3 + 1)) ∧ (w32 (l3 + 1)) < (w.1 : Int)) ∧ (0 ≤ (w32 (l3 + 2)) ∧ (w32 (l3 + 2)) < (w.1 : Int)) ∧ zclI w d 127 [zR 32, zI (zH0 w.2 0 (w32 (l3 + 1))), zI (zH0 w.2 0 (w32 (l3 + 2)))] H (fun x4 H3 => zclI w d 240 [zR 81, zI (zH0 w.2 0 (w32 (l3 + 1))), zI (zH0 w.2 0 (w32 (l3 + 2)))] H3 (fun x6 H5 => (x4 = x6 → zgo w (d + 1) 0 2245 [zR 0, zR 32, zR 81, zI l3] [] H5 (zQI K)) ∧ (¬ x4 = x6 → K 0 H5)))) :
    zgo w (d + 1) 0 1445 [zR 0, zR 32, zR 81, zI l3] [] H (zQI K) := by
  refine g_al zp0 (zf0_16 (k := 5) rfl) rfl rfl (by decide) ?_
  refine g_al zp0 (zf0_16 (k := 6) rfl) rfl rfl (by decide) ?_
  refine g_il zp0 (zf0_16 (k := 7) rfl) rfl rfl ?_
  refine g_ic zp0 (zf0_16 (k := 8) rfl) rfl ?_
  refine g_ar (r := w32 (l3 + 1)) zp0 (zf0_16 (k := 9) rfl) rfl rfl ?_
  obtain ⟨c1, h⟩ := h
  refine g_ald (v := zI (zH0 w.2 0 (w32 (l3 + 1)))) zp0 (zf0_16 (k := 10) rfl) rfl rfl rfl c1 rfl ?_
  refine g_al zp0 (zf0_16 (k := 11) rfl) rfl rfl (by decide) ?_
  refine g_il zp0 (zf0_16 (k := 12) rfl) rfl rfl ?_
  refine g_ic zp0 (zf0_16 (k := 13) rfl) rfl ?_
  refine g_ar (r := w32 (l3 + 2)) zp0 (zf0_16 (k := 14) rfl) rfl rfl ?_
  obtain ⟨c2, h⟩ := h
  refine g_ald (v := zI (zH0 w.2 0 (w32 (l3 + 2)))) zp0 (zf0_16 (k := 15) rfl) rfl rfl rfl c2 rfl ?_
  refine g_callI (as := [zR 32, zI (zH0 w.2 0 (w32 (l3 + 1))), zI (zH0 w.2 0 (w32 (l3 + 2)))]) (rest := []) zp0 (zf0_16 (k := 16) rfl) rfl (Nat.succ_pos _) rfl rfl (Nat.le_of_ble_eq_true rfl) (Nat.le_of_ble_eq_true rfl) rfl rfl h (fun x4 H3 h => ?_)
  refine g_al zp0 (zf0_16 (k := 19) rfl) rfl rfl (by decide) ?_
  refine g_al zp0 (zf0_16 (k := 20) rfl) rfl rfl (by decide) ?_
  refine g_il zp0 (zf0_16 (k := 21) rfl) rfl rfl ?_
  refine g_ic zp0 (zf0_16 (k := 22) rfl) rfl ?_
  refine g_ar (r := w32 (l3 + 1)) zp0 (zf0_16 (k := 23) rfl) rfl rfl ?_
  refine g_ald (v := zI (zH0 w.2 0 (w32 (l3 + 1)))) zp0 (zf0_16 (k := 24) rfl) rfl rfl rfl c1 rfl ?_
  refine g_al zp0 (zf0_16 (k := 25) rfl) rfl rfl (by decide) ?_
  refine g_il zp0 (zf0_16 (k := 26) rfl) rfl rfl ?_
  refine g_ic zp0 (zf0_16 (k := 27) rfl) rfl ?_
  refine g_ar (r := w32 (l3 + 2)) zp0 (zf0_16 (k := 28) rfl) rfl rfl ?_
  refine g_ald (v := zI (zH0 w.2 0 (w32 (l3 + 2)))) zp0 (zf0_16 (k := 29) rfl) rfl rfl rfl c2 rfl ?_
  refine g_callI (as := [zR 81, zI (zH0 w.2 0 (w32 (l3 + 1))), zI (zH0 w.2 0 (w32 (l3 + 2)))]) (rest := [zI x4]) zp0 (zf0_16 (k := 30) rfl) rfl (Nat.succ_pos _) rfl rfl (Nat.le_of_ble_eq_true rfl) (Nat.le_of_ble_eq_true rfl) rfl rfl h (fun x6 H5 h => ?_)
  refine g_icmp zp0 (zf0_16 (k := 33) rfl) rfl zc0 (fun c7 => ?_) (fun c7 => ?_)
  · replace h := h.1 c7
    exact g_weak (ls' := [zR 0, zR 32, zR 81, zI l3]) ⟨Or.inr rfl, Or.inr rfl, Or.inr rfl, Or.inr rfl, trivial⟩ h
  · replace h := h.2 c7
    refine g_ic zp0 (zf0_16 (k := 36) rfl) rfl ?_
    exact g_ret zp0 (zf0_16 (k := 37) rfl) (zret_b (by decide)) ⟨_, rfl, h⟩
set_option maxRecDepth 40000 in
theorem x0_1478 {w : zWt} {d : Nat} {H : zHt} {K : Int → zHt → Prop} {l3 : Int}
    (h : (0 ≤ (w32 (l3 + 1)) ∧ (w32 (l3 + 1)) < (w.1 : Int)) ∧ (0 ≤ (w32 (l3 + 2)) ∧ (w32 (l3 + 2)) < (w.1 : Int)) ∧ (0 ≤ (w32 (l3 + 3)) ∧ (w32 (l3 + 3)) < (w.1 : Int)) ∧ zclI w d 130 [zR 32, zI (zH0 w.2 0 (w32 (l3 + 1))), zI (zH0 w.2 0 (w32 (l3 + 2))), zI (zH0 w.2 0 (w32 (l3 + 3)))] H (fun x5 H4 => zclI w d 243 [zR 81, zI (zH0 w.2 0 (w32 (l3 + 1))), zI (zH0 w.2 0 (w32 (l3 + 2))), zI (zH0 w.2 0 (w32 (l3 + 3)))] H4 (fun x7 H6 => (x5 = x7 → zgo w (d + 1) 0 2245 [zR 0, zR 32, zR 81, zI l3] [] H6 (zQI K)) ∧ (¬ x5 = x7 → K 0 H6)))) :
    zgo w (d + 1) 0 1478 [zR 0, zR 32, zR 81, zI l3] [] H (zQI K) := by
  refine g_al zp0 (zf0_16 (k := 38) rfl) rfl rfl (by decide) ?_
  refine g_al zp0 (zf0_16 (k := 39) rfl) rfl rfl (by decide) ?_
  refine g_il zp0 (zf0_16 (k := 40) rfl) rfl rfl ?_
  refine g_ic zp0 (zf0_16 (k := 41) rfl) rfl ?_
  refine g_ar (r := w32 (l3 + 1)) zp0 (zf0_16 (k := 42) rfl) rfl rfl ?_
  obtain ⟨c1, h⟩ := h
  refine g_ald (v := zI (zH0 w.2 0 (w32 (l3 + 1)))) zp0 (zf0_16 (k := 43) rfl) rfl rfl rfl c1 rfl ?_
  refine g_al zp0 (zf0_16 (k := 44) rfl) rfl rfl (by decide) ?_
  refine g_il zp0 (zf0_16 (k := 45) rfl) rfl rfl ?_
  refine g_ic zp0 (zf0_16 (k := 46) rfl) rfl ?_
  refine g_ar (r := w32 (l3 + 2)) zp0 (zf0_16 (k := 47) rfl) rfl rfl ?_
  obtain ⟨c2, h⟩ := h
  refine g_ald (v := zI (zH0 w.2 0 (w32 (l3 + 2)))) zp0 (zf0_16 (k := 48) rfl) rfl rfl rfl c2 rfl ?_
  refine g_al zp0 (zf0_16 (k := 49) rfl) rfl rfl (by decide) ?_
  refine g_il zp0 (zf0_16 (k := 50) rfl) rfl rfl ?_
  refine g_ic zp0 (zf0_16 (k := 51) rfl) rfl ?_
  refine g_ar (r := w32 (l3 + 3)) zp0 (zf0_16 (k := 52) rfl) rfl rfl ?_
  obtain ⟨c3, h⟩ := h
  refine g_ald (v := zI (zH0 w.2 0 (w32 (l3 + 3)))) zp0 (zf0_16 (k := 53) rfl) rfl rfl rfl c3 rfl ?_
  refine g_callI (as := [zR 32, zI (zH0 w.2 0 (w32 (l3 + 1))), zI (zH0 w.2 0 (w32 (l3 + 2))), zI (zH0 w.2 0 (w32 (l3 + 3)))]) (rest := []) zp0 (zf0_16 (k := 54) rfl) rfl (Nat.succ_pos _) rfl rfl (Nat.le_of_ble_eq_true rfl) (Nat.le_of_ble_eq_true rfl) rfl rfl h (fun x5 H4 h => ?_)
  refine g_al zp0 (zf0_16 (k := 57) rfl) rfl rfl (by decide) ?_
  refine g_al zp0 (zf0_16 (k := 58) rfl) rfl rfl (by decide) ?_
  refine g_il zp0 (zf0_16 (k := 59) rfl) rfl rfl ?_
  refine g_ic zp0 (zf0_16 (k := 60) rfl) rfl ?_
  refine g_ar (r := w32 (l3 + 1)) zp0 (zf0_16 (k := 61) rfl) rfl rfl ?_
  refine g_ald (v := zI (zH0 w.2 0 (w32 (l3 + 1)))) zp0 (zf0_16 (k := 62) rfl) rfl rfl rfl c1 rfl ?_
  refine g_al zp0 (zf0_16 (k := 63) rfl) rfl rfl (by decide) ?_
  refine g_il zp0 (zf0_16 (k := 64) rfl) rfl rfl ?_
  refine g_ic zp0 (zf0_16 (k := 65) rfl) rfl ?_
  refine g_ar (r := w32 (l3 + 2)) zp0 (zf0_16 (k := 66) rfl) rfl rfl ?_
  refine g_ald (v := zI (zH0 w.2 0 (w32 (l3 + 2)))) zp0 (zf0_16 (k := 67) rfl) rfl rfl rfl c2 rfl ?_
  refine g_al zp0 (zf0_16 (k := 68) rfl) rfl rfl (by decide) ?_
  refine g_il zp0 (zf0_16 (k := 69) rfl) rfl rfl ?_
  refine g_ic zp0 (zf0_16 (k := 70) rfl) rfl ?_
  refine g_ar (r := w32 (l3 + 3)) zp0 (zf0_16 (k := 71) rfl) rfl rfl ?_
  refine g_ald (v := zI (zH0 w.2 0 (w32 (l3 + 3)))) zp0 (zf0_16 (k := 72) rfl) rfl rfl rfl c3 rfl ?_
  refine g_callI (as := [zR 81, zI (zH0 w.2 0 (w32 (l3 + 1))), zI (zH0 w.2 0 (w32 (l3 + 2))), zI (zH0 w.2 0 (w32 (l3 + 3)))]) (rest := [zI x5]) zp0 (zf0_16 (k := 73) rfl) rfl (Nat.succ_pos _) rfl rfl (Nat.le_of_ble_eq_true rfl) (Nat.le_of_ble_eq_true rfl) rfl rfl h (fun x7 H6 h => ?_)
  refine g_icmp zp0 (zf0_16 (k := 76) rfl) rfl zc0 (fun c8 => ?_) (fun c8 => ?_)
  · replace h := h.1 c8
    exact g_weak (ls' := [zR 0, zR 32, zR 81, zI l3]) ⟨Or.inr rfl, Or.inr rfl, Or.inr rfl, Or.inr rfl, trivial⟩ h
  · replace h := h.2 c8
    refine g_ic zp0 (zf0_16 (k := 79) rfl) rfl ?_
    exact g_ret zp0 (zf0_16 (k := 80) rfl) (zret_b (by decide)) ⟨_, rfl, h⟩
set_option maxRecDepth 40000 in
theorem x0_1521 {w : zWt} {d : Nat} {H : zHt} {K : Int → zHt → Prop} {l3 : Int}
    (h : (0 ≤ (w32 (l3 + 1)) ∧ (w32 (l3 + 1)) < (w.1 : Int)) ∧ (0 ≤ (w32 (l3 + 2)) ∧ (w32 (l3 + 2)) < (w.1 : Int)) ∧ zclI w d 132 [zR 32, zI (zH0 w.2 0 (w32 (l3 + 1))), zI (zH0 w.2 0 (w32 (l3 + 2)))] H (fun x4 H3 => zclI w d 239 [zR 81, zI (zH0 w.2 0 (w32 (l3 + 1))), zI (zH0 w.2 0 (w32 (l3 + 2)))] H3 (fun x6 H5 => (x4 = x6 → zgo w (d + 1) 0 2245 [zR 0, zR 32, zR 81, zI l3] [] H5 (zQI K)) ∧ (¬ x4 = x6 → K 0 H5)))) :
    zgo w (d + 1) 0 1521 [zR 0, zR 32, zR 81, zI l3] [] H (zQI K) := by
  refine g_al zp0 (zf0_16 (k := 81) rfl) rfl rfl (by decide) ?_
  refine g_al zp0 (zf0_16 (k := 82) rfl) rfl rfl (by decide) ?_
  refine g_il zp0 (zf0_16 (k := 83) rfl) rfl rfl ?_
  refine g_ic zp0 (zf0_16 (k := 84) rfl) rfl ?_
  refine g_ar (r := w32 (l3 + 1)) zp0 (zf0_16 (k := 85) rfl) rfl rfl ?_
  obtain ⟨c1, h⟩ := h
  refine g_ald (v := zI (zH0 w.2 0 (w32 (l3 + 1)))) zp0 (zf0_16 (k := 86) rfl) rfl rfl rfl c1 rfl ?_
  refine g_al zp0 (zf0_16 (k := 87) rfl) rfl rfl (by decide) ?_
  refine g_il zp0 (zf0_16 (k := 88) rfl) rfl rfl ?_
  refine g_ic zp0 (zf0_16 (k := 89) rfl) rfl ?_
  refine g_ar (r := w32 (l3 + 2)) zp0 (zf0_17 (k := 0) rfl) rfl rfl ?_
  obtain ⟨c2, h⟩ := h
  refine g_ald (v := zI (zH0 w.2 0 (w32 (l3 + 2)))) zp0 (zf0_17 (k := 1) rfl) rfl rfl rfl c2 rfl ?_
  refine g_callI (as := [zR 32, zI (zH0 w.2 0 (w32 (l3 + 1))), zI (zH0 w.2 0 (w32 (l3 + 2)))]) (rest := []) zp0 (zf0_17 (k := 2) rfl) rfl (Nat.succ_pos _) rfl rfl (Nat.le_of_ble_eq_true rfl) (Nat.le_of_ble_eq_true rfl) rfl rfl h (fun x4 H3 h => ?_)
  refine g_al zp0 (zf0_17 (k := 5) rfl) rfl rfl (by decide) ?_
  refine g_al zp0 (zf0_17 (k := 6) rfl) rfl rfl (by decide) ?_
  refine g_il zp0 (zf0_17 (k := 7) rfl) rfl rfl ?_
  refine g_ic zp0 (zf0_17 (k := 8) rfl) rfl ?_
  refine g_ar (r := w32 (l3 + 1)) zp0 (zf0_17 (k := 9) rfl) rfl rfl ?_
  refine g_ald (v := zI (zH0 w.2 0 (w32 (l3 + 1)))) zp0 (zf0_17 (k := 10) rfl) rfl rfl rfl c1 rfl ?_
  refine g_al zp0 (zf0_17 (k := 11) rfl) rfl rfl (by decide) ?_
  refine g_il zp0 (zf0_17 (k := 12) rfl) rfl rfl ?_
  refine g_ic zp0 (zf0_17 (k := 13) rfl) rfl ?_
  refine g_ar (r := w32 (l3 + 2)) zp0 (zf0_17 (k := 14) rfl) rfl rfl ?_
  refine g_ald (v := zI (zH0 w.2 0 (w32 (l3 + 2)))) zp0 (zf0_17 (k := 15) rfl) rfl rfl rfl c2 rfl ?_
  refine g_callI (as := [zR 81, zI (zH0 w.2 0 (w32 (l3 + 1))), zI (zH0 w.2 0 (w32 (l3 + 2)))]) (rest := [zI x4]) zp0 (zf0_17 (k := 16) rfl) rfl (Nat.succ_pos _) rfl rfl (Nat.le_of_ble_eq_true rfl) (Nat.le_of_ble_eq_true rfl) rfl rfl h (fun x6 H5 h => ?_)
  refine g_icmp zp0 (zf0_17 (k := 19) rfl) rfl zc0 (fun c7 => ?_) (fun c7 => ?_)
  · replace h := h.1 c7
    exact g_weak (ls' := [zR 0, zR 32, zR 81, zI l3]) ⟨Or.inr rfl, Or.inr rfl, Or.inr rfl, Or.inr rfl, trivial⟩ h
  · replace h := h.2 c7
    refine g_ic zp0 (zf0_17 (k := 22) rfl) rfl ?_
    exact g_ret zp0 (zf0_17 (k := 23) rfl) (zret_b (by decide)) ⟨_, rfl, h⟩
set_option maxRecDepth 40000 in
theorem x0_1554 {w : zWt} {d : Nat} {H : zHt} {K : Int → zHt → Prop} {l3 : Int}
    (h : (0 ≤ (w32 (l3 + 1)) ∧ (w32 (l3 + 1)) < (w.1 : Int)) ∧ (0 ≤ (w32 (l3 + 2)) ∧ (w32 (l3 + 2)) < (w.1 : Int)) ∧ (0 ≤ (w32 (l3 + 3)) ∧ (w32 (l3 + 3)) < (w.1 : Int)) ∧ zclI w d 133 [zR 32, zI (zH0 w.2 0 (w32 (l3 + 1))), zI (zH0 w.2 0 (w32 (l3 + 2))), zI (zH0 w.2 0 (w32 (l3 + 3)))] H (fun x5 H4 => zclI w d 245 [zR 81, zI (zH0 w.2 0 (w32 (l3 + 1))), zI (zH0 w.2 0 (w32 (l3 + 2))), zI (zH0 w.2 0 (w32 (l3 + 3)))] H4 (fun x7 H6 => (x5 = x7 → zgo w (d + 1) 0 2245 [zR 0, zR 32, zR 81, zI l3] [] H6 (zQI K)) ∧ (¬ x5 = x7 → K 0 H6)))) :
    zgo w (d + 1) 0 1554 [zR 0, zR 32, zR 81, zI l3] [] H (zQI K) := by
  refine g_al zp0 (zf0_17 (k := 24) rfl) rfl rfl (by decide) ?_
  refine g_al zp0 (zf0_17 (k := 25) rfl) rfl rfl (by decide) ?_
  refine g_il zp0 (zf0_17 (k := 26) rfl) rfl rfl ?_
  refine g_ic zp0 (zf0_17 (k := 27) rfl) rfl ?_
  refine g_ar (r := w32 (l3 + 1)) zp0 (zf0_17 (k := 28) rfl) rfl rfl ?_
  obtain ⟨c1, h⟩ := h
  refine g_ald (v := zI (zH0 w.2 0 (w32 (l3 + 1)))) zp0 (zf0_17 (k := 29) rfl) rfl rfl rfl c1 rfl ?_
  refine g_al zp0 (zf0_17 (k := 30) rfl) rfl rfl (by decide) ?_
  refine g_il zp0 (zf0_17 (k := 31) rfl) rfl rfl ?_
  refine g_ic zp0 (zf0_17 (k := 32) rfl) rfl ?_
  refine g_ar (r := w32 (l3 + 2)) zp0 (zf0_17 (k := 33) rfl) rfl rfl ?_
  obtain ⟨c2, h⟩ := h
  refine g_ald (v := zI (zH0 w.2 0 (w32 (l3 + 2)))) zp0 (zf0_17 (k := 34) rfl) rfl rfl rfl c2 rfl ?_
  refine g_al zp0 (zf0_17 (k := 35) rfl) rfl rfl (by decide) ?_
  refine g_il zp0 (zf0_17 (k := 36) rfl) rfl rfl ?_
  refine g_ic zp0 (zf0_17 (k := 37) rfl) rfl ?_
  refine g_ar (r := w32 (l3 + 3)) zp0 (zf0_17 (k := 38) rfl) rfl rfl ?_
  obtain ⟨c3, h⟩ := h
  refine g_ald (v := zI (zH0 w.2 0 (w32 (l3 + 3)))) zp0 (zf0_17 (k := 39) rfl) rfl rfl rfl c3 rfl ?_
  refine g_callI (as := [zR 32, zI (zH0 w.2 0 (w32 (l3 + 1))), zI (zH0 w.2 0 (w32 (l3 + 2))), zI (zH0 w.2 0 (w32 (l3 + 3)))]) (rest := []) zp0 (zf0_17 (k := 40) rfl) rfl (Nat.succ_pos _) rfl rfl (Nat.le_of_ble_eq_true rfl) (Nat.le_of_ble_eq_true rfl) rfl rfl h (fun x5 H4 h => ?_)
  refine g_al zp0 (zf0_17 (k := 43) rfl) rfl rfl (by decide) ?_
  refine g_al zp0 (zf0_17 (k := 44) rfl) rfl rfl (by decide) ?_
  refine g_il zp0 (zf0_17 (k := 45) rfl) rfl rfl ?_
  refine g_ic zp0 (zf0_17 (k := 46) rfl) rfl ?_
  refine g_ar (r := w32 (l3 + 1)) zp0 (zf0_17 (k := 47) rfl) rfl rfl ?_
  refine g_ald (v := zI (zH0 w.2 0 (w32 (l3 + 1)))) zp0 (zf0_17 (k := 48) rfl) rfl rfl rfl c1 rfl ?_
  refine g_al zp0 (zf0_17 (k := 49) rfl) rfl rfl (by decide) ?_
  refine g_il zp0 (zf0_17 (k := 50) rfl) rfl rfl ?_
  refine g_ic zp0 (zf0_17 (k := 51) rfl) rfl ?_
  refine g_ar (r := w32 (l3 + 2)) zp0 (zf0_17 (k := 52) rfl) rfl rfl ?_
  refine g_ald (v := zI (zH0 w.2 0 (w32 (l3 + 2)))) zp0 (zf0_17 (k := 53) rfl) rfl rfl rfl c2 rfl ?_
  refine g_al zp0 (zf0_17 (k := 54) rfl) rfl rfl (by decide) ?_
  refine g_il zp0 (zf0_17 (k := 55) rfl) rfl rfl ?_
  refine g_ic zp0 (zf0_17 (k := 56) rfl) rfl ?_
  refine g_ar (r := w32 (l3 + 3)) zp0 (zf0_17 (k := 57) rfl) rfl rfl ?_
  refine g_ald (v := zI (zH0 w.2 0 (w32 (l3 + 3)))) zp0 (zf0_17 (k := 58) rfl) rfl rfl rfl c3 rfl ?_
  refine g_callI (as := [zR 81, zI (zH0 w.2 0 (w32 (l3 + 1))), zI (zH0 w.2 0 (w32 (l3 + 2))), zI (zH0 w.2 0 (w32 (l3 + 3)))]) (rest := [zI x5]) zp0 (zf0_17 (k := 59) rfl) rfl (Nat.succ_pos _) rfl rfl (Nat.le_of_ble_eq_true rfl) (Nat.le_of_ble_eq_true rfl) rfl rfl h (fun x7 H6 h => ?_)
  refine g_icmp zp0 (zf0_17 (k := 62) rfl) rfl zc0 (fun c8 => ?_) (fun c8 => ?_)
  · replace h := h.1 c8
    exact g_weak (ls' := [zR 0, zR 32, zR 81, zI l3]) ⟨Or.inr rfl, Or.inr rfl, Or.inr rfl, Or.inr rfl, trivial⟩ h
  · replace h := h.2 c8
    refine g_ic zp0 (zf0_17 (k := 65) rfl) rfl ?_
    exact g_ret zp0 (zf0_17 (k := 66) rfl) (zret_b (by decide)) ⟨_, rfl, h⟩
set_option maxRecDepth 40000 in
theorem x0_1597 {w : zWt} {d : Nat} {H : zHt} {K : Int → zHt → Prop} {l3 : Int}
    (h : (0 ≤ (w32 (l3 + 1)) ∧ (w32 (l3 + 1)) < (w.1 : Int)) ∧ (0 ≤ (w32 (l3 + 2)) ∧ (w32 (l3 + 2)) < (w.1 : Int)) ∧ (0 ≤ (w32 (l3 + 3)) ∧ (w32 (l3 + 3)) < (w.1 : Int)) ∧ zclI w d 137 [zR 32, zI (zH0 w.2 0 (w32 (l3 + 1))), zI (zH0 w.2 0 (w32 (l3 + 2))), zI (zH0 w.2 0 (w32 (l3 + 3)))] H (fun x5 H4 => zclI w d 247 [zR 81, zI (zH0 w.2 0 (w32 (l3 + 1))), zI (zH0 w.2 0 (w32 (l3 + 2))), zI (zH0 w.2 0 (w32 (l3 + 3)))] H4 (fun x7 H6 => (x5 = x7 → zgo w (d + 1) 0 2245 [zR 0, zR 32, zR 81, zI l3] [] H6 (zQI K)) ∧ (¬ x5 = x7 → K 0 H6)))) :
    zgo w (d + 1) 0 1597 [zR 0, zR 32, zR 81, zI l3] [] H (zQI K) := by
  refine g_al zp0 (zf0_17 (k := 67) rfl) rfl rfl (by decide) ?_
  refine g_al zp0 (zf0_17 (k := 68) rfl) rfl rfl (by decide) ?_
  refine g_il zp0 (zf0_17 (k := 69) rfl) rfl rfl ?_
  refine g_ic zp0 (zf0_17 (k := 70) rfl) rfl ?_
  refine g_ar (r := w32 (l3 + 1)) zp0 (zf0_17 (k := 71) rfl) rfl rfl ?_
  obtain ⟨c1, h⟩ := h
  refine g_ald (v := zI (zH0 w.2 0 (w32 (l3 + 1)))) zp0 (zf0_17 (k := 72) rfl) rfl rfl rfl c1 rfl ?_
  refine g_al zp0 (zf0_17 (k := 73) rfl) rfl rfl (by decide) ?_
  refine g_il zp0 (zf0_17 (k := 74) rfl) rfl rfl ?_
  refine g_ic zp0 (zf0_17 (k := 75) rfl) rfl ?_
  refine g_ar (r := w32 (l3 + 2)) zp0 (zf0_17 (k := 76) rfl) rfl rfl ?_
  obtain ⟨c2, h⟩ := h
  refine g_ald (v := zI (zH0 w.2 0 (w32 (l3 + 2)))) zp0 (zf0_17 (k := 77) rfl) rfl rfl rfl c2 rfl ?_
  refine g_al zp0 (zf0_17 (k := 78) rfl) rfl rfl (by decide) ?_
  refine g_il zp0 (zf0_17 (k := 79) rfl) rfl rfl ?_
  refine g_ic zp0 (zf0_17 (k := 80) rfl) rfl ?_
  refine g_ar (r := w32 (l3 + 3)) zp0 (zf0_17 (k := 81) rfl) rfl rfl ?_
  obtain ⟨c3, h⟩ := h
  refine g_ald (v := zI (zH0 w.2 0 (w32 (l3 + 3)))) zp0 (zf0_17 (k := 82) rfl) rfl rfl rfl c3 rfl ?_
  refine g_callI (as := [zR 32, zI (zH0 w.2 0 (w32 (l3 + 1))), zI (zH0 w.2 0 (w32 (l3 + 2))), zI (zH0 w.2 0 (w32 (l3 + 3)))]) (rest := []) zp0 (zf0_17 (k := 83) rfl) rfl (Nat.succ_pos _) rfl rfl (Nat.le_of_ble_eq_true rfl) (Nat.le_of_ble_eq_true rfl) rfl rfl h (fun x5 H4 h => ?_)
  refine g_al zp0 (zf0_17 (k := 86) rfl) rfl rfl (by decide) ?_
  refine g_al zp0 (zf0_17 (k := 87) rfl) rfl rfl (by decide) ?_
  refine g_il zp0 (zf0_17 (k := 88) rfl) rfl rfl ?_
  refine g_ic zp0 (zf0_17 (k := 89) rfl) rfl ?_
  refine g_ar (r := w32 (l3 + 1)) zp0 (zf0_18 (k := 0) rfl) rfl rfl ?_
  refine g_ald (v := zI (zH0 w.2 0 (w32 (l3 + 1)))) zp0 (zf0_18 (k := 1) rfl) rfl rfl rfl c1 rfl ?_
  refine g_al zp0 (zf0_18 (k := 2) rfl) rfl rfl (by decide) ?_
  refine g_il zp0 (zf0_18 (k := 3) rfl) rfl rfl ?_
  refine g_ic zp0 (zf0_18 (k := 4) rfl) rfl ?_
  refine g_ar (r := w32 (l3 + 2)) zp0 (zf0_18 (k := 5) rfl) rfl rfl ?_
  refine g_ald (v := zI (zH0 w.2 0 (w32 (l3 + 2)))) zp0 (zf0_18 (k := 6) rfl) rfl rfl rfl c2 rfl ?_
  refine g_al zp0 (zf0_18 (k := 7) rfl) rfl rfl (by decide) ?_
  refine g_il zp0 (zf0_18 (k := 8) rfl) rfl rfl ?_
  refine g_ic zp0 (zf0_18 (k := 9) rfl) rfl ?_
  refine g_ar (r := w32 (l3 + 3)) zp0 (zf0_18 (k := 10) rfl) rfl rfl ?_
  refine g_ald (v := zI (zH0 w.2 0 (w32 (l3 + 3)))) zp0 (zf0_18 (k := 11) rfl) rfl rfl rfl c3 rfl ?_
  refine g_callI (as := [zR 81, zI (zH0 w.2 0 (w32 (l3 + 1))), zI (zH0 w.2 0 (w32 (l3 + 2))), zI (zH0 w.2 0 (w32 (l3 + 3)))]) (rest := [zI x5]) zp0 (zf0_18 (k := 12) rfl) rfl (Nat.succ_pos _) rfl rfl (Nat.le_of_ble_eq_true rfl) (Nat.le_of_ble_eq_true rfl) rfl rfl h (fun x7 H6 h => ?_)
  refine g_icmp zp0 (zf0_18 (k := 15) rfl) rfl zc0 (fun c8 => ?_) (fun c8 => ?_)
  · replace h := h.1 c8
    exact g_weak (ls' := [zR 0, zR 32, zR 81, zI l3]) ⟨Or.inr rfl, Or.inr rfl, Or.inr rfl, Or.inr rfl, trivial⟩ h
  · replace h := h.2 c8
    refine g_ic zp0 (zf0_18 (k := 18) rfl) rfl ?_
    exact g_ret zp0 (zf0_18 (k := 19) rfl) (zret_b (by decide)) ⟨_, rfl, h⟩
set_option maxRecDepth 40000 in
theorem x0_1640 {w : zWt} {d : Nat} {H : zHt} {K : Int → zHt → Prop} {l3 : Int}
    (h : (0 ≤ (w32 (l3 + 1)) ∧ (w32 (l3 + 1)) < (w.1 : Int)) ∧ zclI w d 138 [zR 32, zI (zH0 w.2 0 (w32 (l3 + 1)))] H (fun x3 H2 => zclI w d 249 [zR 81, zI (zH0 w.2 0 (w32 (l3 + 1)))] H2 (fun x5 H4 => (x3 = x5 → zgo w (d + 1) 0 2245 [zR 0, zR 32, zR 81, zI l3] [] H4 (zQI K)) ∧ (¬ x3 = x5 → K 0 H4)))) :
    zgo w (d + 1) 0 1640 [zR 0, zR 32, zR 81, zI l3] [] H (zQI K) := by
  refine g_al zp0 (zf0_18 (k := 20) rfl) rfl rfl (by decide) ?_
  refine g_al zp0 (zf0_18 (k := 21) rfl) rfl rfl (by decide) ?_
  refine g_il zp0 (zf0_18 (k := 22) rfl) rfl rfl ?_
  refine g_ic zp0 (zf0_18 (k := 23) rfl) rfl ?_
  refine g_ar (r := w32 (l3 + 1)) zp0 (zf0_18 (k := 24) rfl) rfl rfl ?_
  obtain ⟨c1, h⟩ := h
  refine g_ald (v := zI (zH0 w.2 0 (w32 (l3 + 1)))) zp0 (zf0_18 (k := 25) rfl) rfl rfl rfl c1 rfl ?_
  refine g_callI (as := [zR 32, zI (zH0 w.2 0 (w32 (l3 + 1)))]) (rest := []) zp0 (zf0_18 (k := 26) rfl) rfl (Nat.succ_pos _) rfl rfl (Nat.le_of_ble_eq_true rfl) (Nat.le_of_ble_eq_true rfl) rfl rfl h (fun x3 H2 h => ?_)
  refine g_al zp0 (zf0_18 (k := 29) rfl) rfl rfl (by decide) ?_
  refine g_al zp0 (zf0_18 (k := 30) rfl) rfl rfl (by decide) ?_
  refine g_il zp0 (zf0_18 (k := 31) rfl) rfl rfl ?_
  refine g_ic zp0 (zf0_18 (k := 32) rfl) rfl ?_
  refine g_ar (r := w32 (l3 + 1)) zp0 (zf0_18 (k := 33) rfl) rfl rfl ?_
  refine g_ald (v := zI (zH0 w.2 0 (w32 (l3 + 1)))) zp0 (zf0_18 (k := 34) rfl) rfl rfl rfl c1 rfl ?_
  refine g_callI (as := [zR 81, zI (zH0 w.2 0 (w32 (l3 + 1)))]) (rest := [zI x3]) zp0 (zf0_18 (k := 35) rfl) rfl (Nat.succ_pos _) rfl rfl (Nat.le_of_ble_eq_true rfl) (Nat.le_of_ble_eq_true rfl) rfl rfl h (fun x5 H4 h => ?_)
  refine g_icmp zp0 (zf0_18 (k := 38) rfl) rfl zc0 (fun c6 => ?_) (fun c6 => ?_)
  · replace h := h.1 c6
    exact g_weak (ls' := [zR 0, zR 32, zR 81, zI l3]) ⟨Or.inr rfl, Or.inr rfl, Or.inr rfl, Or.inr rfl, trivial⟩ h
  · replace h := h.2 c6
    refine g_ic zp0 (zf0_18 (k := 41) rfl) rfl ?_
    exact g_ret zp0 (zf0_18 (k := 42) rfl) (zret_b (by decide)) ⟨_, rfl, h⟩
set_option maxRecDepth 40000 in
theorem x0_1663 {w : zWt} {d : Nat} {H : zHt} {K : Int → zHt → Prop} {l3 : Int}
    (h : (0 ≤ (w32 (l3 + 1)) ∧ (w32 (l3 + 1)) < (w.1 : Int)) ∧ (0 ≤ (w32 (l3 + 2)) ∧ (w32 (l3 + 2)) < (w.1 : Int)) ∧ (0 ≤ (w32 (l3 + 3)) ∧ (w32 (l3 + 3)) < (w.1 : Int)) ∧ zclI w d 139 [zR 32, zI (zH0 w.2 0 (w32 (l3 + 1))), zI (zH0 w.2 0 (w32 (l3 + 2))), zI (zH0 w.2 0 (w32 (l3 + 3)))] H (fun x5 H4 => zclI w d 251 [zR 81, zI (zH0 w.2 0 (w32 (l3 + 1))), zI (zH0 w.2 0 (w32 (l3 + 2))), zI (zH0 w.2 0 (w32 (l3 + 3)))] H4 (fun x7 H6 => (x5 = x7 → zgo w (d + 1) 0 2245 [zR 0, zR 32, zR 81, zI l3] [] H6 (zQI K)) ∧ (¬ x5 = x7 → K 0 H6)))) :
    zgo w (d + 1) 0 1663 [zR 0, zR 32, zR 81, zI l3] [] H (zQI K) := by
  refine g_al zp0 (zf0_18 (k := 43) rfl) rfl rfl (by decide) ?_
  refine g_al zp0 (zf0_18 (k := 44) rfl) rfl rfl (by decide) ?_
  refine g_il zp0 (zf0_18 (k := 45) rfl) rfl rfl ?_
  refine g_ic zp0 (zf0_18 (k := 46) rfl) rfl ?_
  refine g_ar (r := w32 (l3 + 1)) zp0 (zf0_18 (k := 47) rfl) rfl rfl ?_
  obtain ⟨c1, h⟩ := h
  refine g_ald (v := zI (zH0 w.2 0 (w32 (l3 + 1)))) zp0 (zf0_18 (k := 48) rfl) rfl rfl rfl c1 rfl ?_
  refine g_al zp0 (zf0_18 (k := 49) rfl) rfl rfl (by decide) ?_
  refine g_il zp0 (zf0_18 (k := 50) rfl) rfl rfl ?_
  refine g_ic zp0 (zf0_18 (k := 51) rfl) rfl ?_
  refine g_ar (r := w32 (l3 + 2)) zp0 (zf0_18 (k := 52) rfl) rfl rfl ?_
  obtain ⟨c2, h⟩ := h
  refine g_ald (v := zI (zH0 w.2 0 (w32 (l3 + 2)))) zp0 (zf0_18 (k := 53) rfl) rfl rfl rfl c2 rfl ?_
  refine g_al zp0 (zf0_18 (k := 54) rfl) rfl rfl (by decide) ?_
  refine g_il zp0 (zf0_18 (k := 55) rfl) rfl rfl ?_
  refine g_ic zp0 (zf0_18 (k := 56) rfl) rfl ?_
  refine g_ar (r := w32 (l3 + 3)) zp0 (zf0_18 (k := 57) rfl) rfl rfl ?_
  obtain ⟨c3, h⟩ := h
  refine g_ald (v := zI (zH0 w.2 0 (w32 (l3 + 3)))) zp0 (zf0_18 (k := 58) rfl) rfl rfl rfl c3 rfl ?_
  refine g_callI (as := [zR 32, zI (zH0 w.2 0 (w32 (l3 + 1))), zI (zH0 w.2 0 (w32 (l3 + 2))), zI (zH0 w.2 0 (w32 (l3 + 3)))]) (rest := []) zp0 (zf0_18 (k := 59) rfl) rfl (Nat.succ_pos _) rfl rfl (Nat.le_of_ble_eq_true rfl) (Nat.le_of_ble_eq_true rfl) rfl rfl h (fun x5 H4 h => ?_)
  refine g_al zp0 (zf0_18 (k := 62) rfl) rfl rfl (by decide) ?_
  refine g_al zp0 (zf0_18 (k := 63) rfl) rfl rfl (by decide) ?_
  refine g_il zp0 (zf0_18 (k := 64) rfl) rfl rfl ?_
  refine g_ic zp0 (zf0_18 (k := 65) rfl) rfl ?_
  refine g_ar (r := w32 (l3 + 1)) zp0 (zf0_18 (k := 66) rfl) rfl rfl ?_
  refine g_ald (v := zI (zH0 w.2 0 (w32 (l3 + 1)))) zp0 (zf0_18 (k := 67) rfl) rfl rfl rfl c1 rfl ?_
  refine g_al zp0 (zf0_18 (k := 68) rfl) rfl rfl (by decide) ?_
  refine g_il zp0 (zf0_18 (k := 69) rfl) rfl rfl ?_
  refine g_ic zp0 (zf0_18 (k := 70) rfl) rfl ?_
  refine g_ar (r := w32 (l3 + 2)) zp0 (zf0_18 (k := 71) rfl) rfl rfl ?_
  refine g_ald (v := zI (zH0 w.2 0 (w32 (l3 + 2)))) zp0 (zf0_18 (k := 72) rfl) rfl rfl rfl c2 rfl ?_
  refine g_al zp0 (zf0_18 (k := 73) rfl) rfl rfl (by decide) ?_
  refine g_il zp0 (zf0_18 (k := 74) rfl) rfl rfl ?_
  refine g_ic zp0 (zf0_18 (k := 75) rfl) rfl ?_
  refine g_ar (r := w32 (l3 + 3)) zp0 (zf0_18 (k := 76) rfl) rfl rfl ?_
  refine g_ald (v := zI (zH0 w.2 0 (w32 (l3 + 3)))) zp0 (zf0_18 (k := 77) rfl) rfl rfl rfl c3 rfl ?_
  refine g_callI (as := [zR 81, zI (zH0 w.2 0 (w32 (l3 + 1))), zI (zH0 w.2 0 (w32 (l3 + 2))), zI (zH0 w.2 0 (w32 (l3 + 3)))]) (rest := [zI x5]) zp0 (zf0_18 (k := 78) rfl) rfl (Nat.succ_pos _) rfl rfl (Nat.le_of_ble_eq_true rfl) (Nat.le_of_ble_eq_true rfl) rfl rfl h (fun x7 H6 h => ?_)
  refine g_icmp zp0 (zf0_18 (k := 81) rfl) rfl zc0 (fun c8 => ?_) (fun c8 => ?_)
  · replace h := h.1 c8
    exact g_weak (ls' := [zR 0, zR 32, zR 81, zI l3]) ⟨Or.inr rfl, Or.inr rfl, Or.inr rfl, Or.inr rfl, trivial⟩ h
  · replace h := h.2 c8
    refine g_ic zp0 (zf0_18 (k := 84) rfl) rfl ?_
    exact g_ret zp0 (zf0_18 (k := 85) rfl) (zret_b (by decide)) ⟨_, rfl, h⟩
set_option maxRecDepth 40000 in
theorem x0_1706 {w : zWt} {d : Nat} {H : zHt} {K : Int → zHt → Prop} {l3 : Int}
    (h : (0 ≤ (w32 (l3 + 1)) ∧ (w32 (l3 + 1)) < (w.1 : Int)) ∧ (0 ≤ (w32 (l3 + 2)) ∧ (w32 (l3 + 2)) < (w.1 : Int)) ∧ (0 ≤ (w32 (l3 + 3)) ∧ (w32 (l3 + 3)) < (w.1 : Int)) ∧ (0 ≤ (w32 (l3 + 4)) ∧ (w32 (l3 + 4)) < (w.1 : Int)) ∧ zclI w d 141 [zR 32, zI (zH0 w.2 0 (w32 (l3 + 1))), zI (zH0 w.2 0 (w32 (l3 + 2))), zI (zH0 w.2 0 (w32 (l3 + 3))), zI (zH0 w.2 0 (w32 (l3 + 4)))] H (fun x6 H5 => zclI w d 252 [zR 81, zI (zH0 w.2 0 (w32 (l3 + 1))), zI (zH0 w.2 0 (w32 (l3 + 2))), zI (zH0 w.2 0 (w32 (l3 + 3))), zI (zH0 w.2 0 (w32 (l3 + 4)))] H5 (fun x8 H7 => (x6 = x8 → zgo w (d + 1) 0 2245 [zR 0, zR 32, zR 81, zI l3] [] H7 (zQI K)) ∧ (¬ x6 = x8 → K 0 H7)))) :
    zgo w (d + 1) 0 1706 [zR 0, zR 32, zR 81, zI l3] [] H (zQI K) := by
  refine g_al zp0 (zf0_18 (k := 86) rfl) rfl rfl (by decide) ?_
  refine g_al zp0 (zf0_18 (k := 87) rfl) rfl rfl (by decide) ?_
  refine g_il zp0 (zf0_18 (k := 88) rfl) rfl rfl ?_
  refine g_ic zp0 (zf0_18 (k := 89) rfl) rfl ?_
  refine g_ar (r := w32 (l3 + 1)) zp0 (zf0_19 (k := 0) rfl) rfl rfl ?_
  obtain ⟨c1, h⟩ := h
  refine g_ald (v := zI (zH0 w.2 0 (w32 (l3 + 1)))) zp0 (zf0_19 (k := 1) rfl) rfl rfl rfl c1 rfl ?_
  refine g_al zp0 (zf0_19 (k := 2) rfl) rfl rfl (by decide) ?_
  refine g_il zp0 (zf0_19 (k := 3) rfl) rfl rfl ?_
  refine g_ic zp0 (zf0_19 (k := 4) rfl) rfl ?_
  refine g_ar (r := w32 (l3 + 2)) zp0 (zf0_19 (k := 5) rfl) rfl rfl ?_
  obtain ⟨c2, h⟩ := h
  refine g_ald (v := zI (zH0 w.2 0 (w32 (l3 + 2)))) zp0 (zf0_19 (k := 6) rfl) rfl rfl rfl c2 rfl ?_
  refine g_al zp0 (zf0_19 (k := 7) rfl) rfl rfl (by decide) ?_
  refine g_il zp0 (zf0_19 (k := 8) rfl) rfl rfl ?_
  refine g_ic zp0 (zf0_19 (k := 9) rfl) rfl ?_
  refine g_ar (r := w32 (l3 + 3)) zp0 (zf0_19 (k := 10) rfl) rfl rfl ?_
  obtain ⟨c3, h⟩ := h
  refine g_ald (v := zI (zH0 w.2 0 (w32 (l3 + 3)))) zp0 (zf0_19 (k := 11) rfl) rfl rfl rfl c3 rfl ?_
  refine g_al zp0 (zf0_19 (k := 12) rfl) rfl rfl (by decide) ?_
  refine g_il zp0 (zf0_19 (k := 13) rfl) rfl rfl ?_
  refine g_ic zp0 (zf0_19 (k := 14) rfl) rfl ?_
  refine g_ar (r := w32 (l3 + 4)) zp0 (zf0_19 (k := 15) rfl) rfl rfl ?_
  obtain ⟨c4, h⟩ := h
  refine g_ald (v := zI (zH0 w.2 0 (w32 (l3 + 4)))) zp0 (zf0_19 (k := 16) rfl) rfl rfl rfl c4 rfl ?_
  refine g_callI (as := [zR 32, zI (zH0 w.2 0 (w32 (l3 + 1))), zI (zH0 w.2 0 (w32 (l3 + 2))), zI (zH0 w.2 0 (w32 (l3 + 3))), zI (zH0 w.2 0 (w32 (l3 + 4)))]) (rest := []) zp0 (zf0_19 (k := 17) rfl) rfl (Nat.succ_pos _) rfl rfl (Nat.le_of_ble_eq_true rfl) (Nat.le_of_ble_eq_true rfl) rfl rfl h (fun x6 H5 h => ?_)
  refine g_al zp0 (zf0_19 (k := 20) rfl) rfl rfl (by decide) ?_
  refine g_al zp0 (zf0_19 (k := 21) rfl) rfl rfl (by decide) ?_
  refine g_il zp0 (zf0_19 (k := 22) rfl) rfl rfl ?_
  refine g_ic zp0 (zf0_19 (k := 23) rfl) rfl ?_
  refine g_ar (r := w32 (l3 + 1)) zp0 (zf0_19 (k := 24) rfl) rfl rfl ?_
  refine g_ald (v := zI (zH0 w.2 0 (w32 (l3 + 1)))) zp0 (zf0_19 (k := 25) rfl) rfl rfl rfl c1 rfl ?_
  refine g_al zp0 (zf0_19 (k := 26) rfl) rfl rfl (by decide) ?_
  refine g_il zp0 (zf0_19 (k := 27) rfl) rfl rfl ?_
  refine g_ic zp0 (zf0_19 (k := 28) rfl) rfl ?_
  refine g_ar (r := w32 (l3 + 2)) zp0 (zf0_19 (k := 29) rfl) rfl rfl ?_
  refine g_ald (v := zI (zH0 w.2 0 (w32 (l3 + 2)))) zp0 (zf0_19 (k := 30) rfl) rfl rfl rfl c2 rfl ?_
  refine g_al zp0 (zf0_19 (k := 31) rfl) rfl rfl (by decide) ?_
  refine g_il zp0 (zf0_19 (k := 32) rfl) rfl rfl ?_
  refine g_ic zp0 (zf0_19 (k := 33) rfl) rfl ?_
  refine g_ar (r := w32 (l3 + 3)) zp0 (zf0_19 (k := 34) rfl) rfl rfl ?_
  refine g_ald (v := zI (zH0 w.2 0 (w32 (l3 + 3)))) zp0 (zf0_19 (k := 35) rfl) rfl rfl rfl c3 rfl ?_
  refine g_al zp0 (zf0_19 (k := 36) rfl) rfl rfl (by decide) ?_
  refine g_il zp0 (zf0_19 (k := 37) rfl) rfl rfl ?_
  refine g_ic zp0 (zf0_19 (k := 38) rfl) rfl ?_
  refine g_ar (r := w32 (l3 + 4)) zp0 (zf0_19 (k := 39) rfl) rfl rfl ?_
  refine g_ald (v := zI (zH0 w.2 0 (w32 (l3 + 4)))) zp0 (zf0_19 (k := 40) rfl) rfl rfl rfl c4 rfl ?_
  refine g_callI (as := [zR 81, zI (zH0 w.2 0 (w32 (l3 + 1))), zI (zH0 w.2 0 (w32 (l3 + 2))), zI (zH0 w.2 0 (w32 (l3 + 3))), zI (zH0 w.2 0 (w32 (l3 + 4)))]) (rest := [zI x6]) zp0 (zf0_19 (k := 41) rfl) rfl (Nat.succ_pos _) rfl rfl (Nat.le_of_ble_eq_true rfl) (Nat.le_of_ble_eq_true rfl) rfl rfl h (fun x8 H7 h => ?_)
  refine g_icmp zp0 (zf0_19 (k := 44) rfl) rfl zc0 (fun c9 => ?_) (fun c9 => ?_)
  · replace h := h.1 c9
    exact g_weak (ls' := [zR 0, zR 32, zR 81, zI l3]) ⟨Or.inr rfl, Or.inr rfl, Or.inr rfl, Or.inr rfl, trivial⟩ h
  · replace h := h.2 c9
    refine g_ic zp0 (zf0_19 (k := 47) rfl) rfl ?_
    exact g_ret zp0 (zf0_19 (k := 48) rfl) (zret_b (by decide)) ⟨_, rfl, h⟩
set_option maxRecDepth 40000 in
theorem x0_1759 {w : zWt} {d : Nat} {H : zHt} {K : Int → zHt → Prop} {l3 : Int}
    (h : (0 ≤ (w32 (l3 + 1)) ∧ (w32 (l3 + 1)) < (w.1 : Int)) ∧ (0 ≤ (w32 (l3 + 2)) ∧ (w32 (l3 + 2)) < (w.1 : Int)) ∧ (0 ≤ (w32 (l3 + 3)) ∧ (w32 (l3 + 3)) < (w.1 : Int)) ∧ (0 ≤ (w32 (l3 + 4)) ∧ (w32 (l3 + 4)) < (w.1 : Int)) ∧ zclI w d 143 [zR 32, zI (zH0 w.2 0 (w32 (l3 + 1))), zI (zH0 w.2 0 (w32 (l3 + 2))), zI (zH0 w.2 0 (w32 (l3 + 3))), zI (zH0 w.2 0 (w32 (l3 + 4)))] H (fun x6 H5 => zclI w d 253 [zR 81, zI (zH0 w.2 0 (w32 (l3 + 1))), zI (zH0 w.2 0 (w32 (l3 + 2))), zI (zH0 w.2 0 (w32 (l3 + 3))), zI (zH0 w.2 0 (w32 (l3 + 4)))] H5 (fun x8 H7 => (x6 = x8 → zgo w (d + 1) 0 2245 [zR 0, zR 32, zR 81, zI l3] [] H7 (zQI K)) ∧ (¬ x6 = x8 → K 0 H7)))) :
    zgo w (d + 1) 0 1759 [zR 0, zR 32, zR 81, zI l3] [] H (zQI K) := by
  refine g_al zp0 (zf0_19 (k := 49) rfl) rfl rfl (by decide) ?_
  refine g_al zp0 (zf0_19 (k := 50) rfl) rfl rfl (by decide) ?_
  refine g_il zp0 (zf0_19 (k := 51) rfl) rfl rfl ?_
  refine g_ic zp0 (zf0_19 (k := 52) rfl) rfl ?_
  refine g_ar (r := w32 (l3 + 1)) zp0 (zf0_19 (k := 53) rfl) rfl rfl ?_
  obtain ⟨c1, h⟩ := h
  refine g_ald (v := zI (zH0 w.2 0 (w32 (l3 + 1)))) zp0 (zf0_19 (k := 54) rfl) rfl rfl rfl c1 rfl ?_
  refine g_al zp0 (zf0_19 (k := 55) rfl) rfl rfl (by decide) ?_
  refine g_il zp0 (zf0_19 (k := 56) rfl) rfl rfl ?_
  refine g_ic zp0 (zf0_19 (k := 57) rfl) rfl ?_
  refine g_ar (r := w32 (l3 + 2)) zp0 (zf0_19 (k := 58) rfl) rfl rfl ?_
  obtain ⟨c2, h⟩ := h
  refine g_ald (v := zI (zH0 w.2 0 (w32 (l3 + 2)))) zp0 (zf0_19 (k := 59) rfl) rfl rfl rfl c2 rfl ?_
  refine g_al zp0 (zf0_19 (k := 60) rfl) rfl rfl (by decide) ?_
  refine g_il zp0 (zf0_19 (k := 61) rfl) rfl rfl ?_
  refine g_ic zp0 (zf0_19 (k := 62) rfl) rfl ?_
  refine g_ar (r := w32 (l3 + 3)) zp0 (zf0_19 (k := 63) rfl) rfl rfl ?_
  obtain ⟨c3, h⟩ := h
  refine g_ald (v := zI (zH0 w.2 0 (w32 (l3 + 3)))) zp0 (zf0_19 (k := 64) rfl) rfl rfl rfl c3 rfl ?_
  refine g_al zp0 (zf0_19 (k := 65) rfl) rfl rfl (by decide) ?_
  refine g_il zp0 (zf0_19 (k := 66) rfl) rfl rfl ?_
  refine g_ic zp0 (zf0_19 (k := 67) rfl) rfl ?_
  refine g_ar (r := w32 (l3 + 4)) zp0 (zf0_19 (k := 68) rfl) rfl rfl ?_
  obtain ⟨c4, h⟩ := h
  refine g_ald (v := zI (zH0 w.2 0 (w32 (l3 + 4)))) zp0 (zf0_19 (k := 69) rfl) rfl rfl rfl c4 rfl ?_
  refine g_callI (as := [zR 32, zI (zH0 w.2 0 (w32 (l3 + 1))), zI (zH0 w.2 0 (w32 (l3 + 2))), zI (zH0 w.2 0 (w32 (l3 + 3))), zI (zH0 w.2 0 (w32 (l3 + 4)))]) (rest := []) zp0 (zf0_19 (k := 70) rfl) rfl (Nat.succ_pos _) rfl rfl (Nat.le_of_ble_eq_true rfl) (Nat.le_of_ble_eq_true rfl) rfl rfl h (fun x6 H5 h => ?_)
  refine g_al zp0 (zf0_19 (k := 73) rfl) rfl rfl (by decide) ?_
  refine g_al zp0 (zf0_19 (k := 74) rfl) rfl rfl (by decide) ?_
  refine g_il zp0 (zf0_19 (k := 75) rfl) rfl rfl ?_
  refine g_ic zp0 (zf0_19 (k := 76) rfl) rfl ?_
  refine g_ar (r := w32 (l3 + 1)) zp0 (zf0_19 (k := 77) rfl) rfl rfl ?_
  refine g_ald (v := zI (zH0 w.2 0 (w32 (l3 + 1)))) zp0 (zf0_19 (k := 78) rfl) rfl rfl rfl c1 rfl ?_
  refine g_al zp0 (zf0_19 (k := 79) rfl) rfl rfl (by decide) ?_
  refine g_il zp0 (zf0_19 (k := 80) rfl) rfl rfl ?_
  refine g_ic zp0 (zf0_19 (k := 81) rfl) rfl ?_
  refine g_ar (r := w32 (l3 + 2)) zp0 (zf0_19 (k := 82) rfl) rfl rfl ?_
  refine g_ald (v := zI (zH0 w.2 0 (w32 (l3 + 2)))) zp0 (zf0_19 (k := 83) rfl) rfl rfl rfl c2 rfl ?_
  refine g_al zp0 (zf0_19 (k := 84) rfl) rfl rfl (by decide) ?_
  refine g_il zp0 (zf0_19 (k := 85) rfl) rfl rfl ?_
  refine g_ic zp0 (zf0_19 (k := 86) rfl) rfl ?_
  refine g_ar (r := w32 (l3 + 3)) zp0 (zf0_19 (k := 87) rfl) rfl rfl ?_
  refine g_ald (v := zI (zH0 w.2 0 (w32 (l3 + 3)))) zp0 (zf0_19 (k := 88) rfl) rfl rfl rfl c3 rfl ?_
  refine g_al zp0 (zf0_19 (k := 89) rfl) rfl rfl (by decide) ?_
  refine g_il zp0 (zf0_20 (k := 0) rfl) rfl rfl ?_
  refine g_ic zp0 (zf0_20 (k := 1) rfl) rfl ?_
  refine g_ar (r := w32 (l3 + 4)) zp0 (zf0_20 (k := 2) rfl) rfl rfl ?_
  refine g_ald (v := zI (zH0 w.2 0 (w32 (l3 + 4)))) zp0 (zf0_20 (k := 3) rfl) rfl rfl rfl c4 rfl ?_
  refine g_callI (as := [zR 81, zI (zH0 w.2 0 (w32 (l3 + 1))), zI (zH0 w.2 0 (w32 (l3 + 2))), zI (zH0 w.2 0 (w32 (l3 + 3))), zI (zH0 w.2 0 (w32 (l3 + 4)))]) (rest := [zI x6]) zp0 (zf0_20 (k := 4) rfl) rfl (Nat.succ_pos _) rfl rfl (Nat.le_of_ble_eq_true rfl) (Nat.le_of_ble_eq_true rfl) rfl rfl h (fun x8 H7 h => ?_)
  refine g_icmp zp0 (zf0_20 (k := 7) rfl) rfl zc0 (fun c9 => ?_) (fun c9 => ?_)
  · replace h := h.1 c9
    exact g_weak (ls' := [zR 0, zR 32, zR 81, zI l3]) ⟨Or.inr rfl, Or.inr rfl, Or.inr rfl, Or.inr rfl, trivial⟩ h
  · replace h := h.2 c9
    refine g_ic zp0 (zf0_20 (k := 10) rfl) rfl ?_
    exact g_ret zp0 (zf0_20 (k := 11) rfl) (zret_b (by decide)) ⟨_, rfl, h⟩
set_option maxRecDepth 40000 in
theorem x0_1812 {w : zWt} {d : Nat} {H : zHt} {K : Int → zHt → Prop} {l3 : Int}
    (h : (0 ≤ (w32 (l3 + 1)) ∧ (w32 (l3 + 1)) < (w.1 : Int)) ∧ (0 ≤ (w32 (l3 + 2)) ∧ (w32 (l3 + 2)) < (w.1 : Int)) ∧ (0 ≤ (w32 (l3 + 3)) ∧ (w32 (l3 + 3)) < (w.1 : Int)) ∧ zclI w d 145 [zR 32, zI (zH0 w.2 0 (w32 (l3 + 1))), zI (zH0 w.2 0 (w32 (l3 + 2))), zI (zH0 w.2 0 (w32 (l3 + 3)))] H (fun x5 H4 => zclI w d 255 [zR 81, zI (zH0 w.2 0 (w32 (l3 + 1))), zI (zH0 w.2 0 (w32 (l3 + 2))), zI (zH0 w.2 0 (w32 (l3 + 3)))] H4 (fun x7 H6 => (x5 = x7 → zgo w (d + 1) 0 2245 [zR 0, zR 32, zR 81, zI l3] [] H6 (zQI K)) ∧ (¬ x5 = x7 → K 0 H6)))) :
    zgo w (d + 1) 0 1812 [zR 0, zR 32, zR 81, zI l3] [] H (zQI K) := by
  refine g_al zp0 (zf0_20 (k := 12) rfl) rfl rfl (by decide) ?_
  refine g_al zp0 (zf0_20 (k := 13) rfl) rfl rfl (by decide) ?_
  refine g_il zp0 (zf0_20 (k := 14) rfl) rfl rfl ?_
  refine g_ic zp0 (zf0_20 (k := 15) rfl) rfl ?_
  refine g_ar (r := w32 (l3 + 1)) zp0 (zf0_20 (k := 16) rfl) rfl rfl ?_
  obtain ⟨c1, h⟩ := h
  refine g_ald (v := zI (zH0 w.2 0 (w32 (l3 + 1)))) zp0 (zf0_20 (k := 17) rfl) rfl rfl rfl c1 rfl ?_
  refine g_al zp0 (zf0_20 (k := 18) rfl) rfl rfl (by decide) ?_
  refine g_il zp0 (zf0_20 (k := 19) rfl) rfl rfl ?_
  refine g_ic zp0 (zf0_20 (k := 20) rfl) rfl ?_
  refine g_ar (r := w32 (l3 + 2)) zp0 (zf0_20 (k := 21) rfl) rfl rfl ?_
  obtain ⟨c2, h⟩ := h
  refine g_ald (v := zI (zH0 w.2 0 (w32 (l3 + 2)))) zp0 (zf0_20 (k := 22) rfl) rfl rfl rfl c2 rfl ?_
  refine g_al zp0 (zf0_20 (k := 23) rfl) rfl rfl (by decide) ?_
  refine g_il zp0 (zf0_20 (k := 24) rfl) rfl rfl ?_
  refine g_ic zp0 (zf0_20 (k := 25) rfl) rfl ?_
  refine g_ar (r := w32 (l3 + 3)) zp0 (zf0_20 (k := 26) rfl) rfl rfl ?_
  obtain ⟨c3, h⟩ := h
  refine g_ald (v := zI (zH0 w.2 0 (w32 (l3 + 3)))) zp0 (zf0_20 (k := 27) rfl) rfl rfl rfl c3 rfl ?_
  refine g_callI (as := [zR 32, zI (zH0 w.2 0 (w32 (l3 + 1))), zI (zH0 w.2 0 (w32 (l3 + 2))), zI (zH0 w.2 0 (w32 (l3 + 3)))]) (rest := []) zp0 (zf0_20 (k := 28) rfl) rfl (Nat.succ_pos _) rfl rfl (Nat.le_of_ble_eq_true rfl) (Nat.le_of_ble_eq_true rfl) rfl rfl h (fun x5 H4 h => ?_)
  refine g_al zp0 (zf0_20 (k := 31) rfl) rfl rfl (by decide) ?_
  refine g_al zp0 (zf0_20 (k := 32) rfl) rfl rfl (by decide) ?_
  refine g_il zp0 (zf0_20 (k := 33) rfl) rfl rfl ?_
  refine g_ic zp0 (zf0_20 (k := 34) rfl) rfl ?_
  refine g_ar (r := w32 (l3 + 1)) zp0 (zf0_20 (k := 35) rfl) rfl rfl ?_
  refine g_ald (v := zI (zH0 w.2 0 (w32 (l3 + 1)))) zp0 (zf0_20 (k := 36) rfl) rfl rfl rfl c1 rfl ?_
  refine g_al zp0 (zf0_20 (k := 37) rfl) rfl rfl (by decide) ?_
  refine g_il zp0 (zf0_20 (k := 38) rfl) rfl rfl ?_
  refine g_ic zp0 (zf0_20 (k := 39) rfl) rfl ?_
  refine g_ar (r := w32 (l3 + 2)) zp0 (zf0_20 (k := 40) rfl) rfl rfl ?_
  refine g_ald (v := zI (zH0 w.2 0 (w32 (l3 + 2)))) zp0 (zf0_20 (k := 41) rfl) rfl rfl rfl c2 rfl ?_
  refine g_al zp0 (zf0_20 (k := 42) rfl) rfl rfl (by decide) ?_
  refine g_il zp0 (zf0_20 (k := 43) rfl) rfl rfl ?_
  refine g_ic zp0 (zf0_20 (k := 44) rfl) rfl ?_
  refine g_ar (r := w32 (l3 + 3)) zp0 (zf0_20 (k := 45) rfl) rfl rfl ?_
  refine g_ald (v := zI (zH0 w.2 0 (w32 (l3 + 3)))) zp0 (zf0_20 (k := 46) rfl) rfl rfl rfl c3 rfl ?_
  refine g_callI (as := [zR 81, zI (zH0 w.2 0 (w32 (l3 + 1))), zI (zH0 w.2 0 (w32 (l3 + 2))), zI (zH0 w.2 0 (w32 (l3 + 3)))]) (rest := [zI x5]) zp0 (zf0_20 (k := 47) rfl) rfl (Nat.succ_pos _) rfl rfl (Nat.le_of_ble_eq_true rfl) (Nat.le_of_ble_eq_true rfl) rfl rfl h (fun x7 H6 h => ?_)
  refine g_icmp zp0 (zf0_20 (k := 50) rfl) rfl zc0 (fun c8 => ?_) (fun c8 => ?_)
  · replace h := h.1 c8
    exact g_weak (ls' := [zR 0, zR 32, zR 81, zI l3]) ⟨Or.inr rfl, Or.inr rfl, Or.inr rfl, Or.inr rfl, trivial⟩ h
  · replace h := h.2 c8
    refine g_ic zp0 (zf0_20 (k := 53) rfl) rfl ?_
    exact g_ret zp0 (zf0_20 (k := 54) rfl) (zret_b (by decide)) ⟨_, rfl, h⟩
set_option maxRecDepth 40000 in
theorem x0_1855 {w : zWt} {d : Nat} {H : zHt} {K : Int → zHt → Prop} {l3 : Int}
    (h : (0 ≤ (w32 (l3 + 1)) ∧ (w32 (l3 + 1)) < (w.1 : Int)) ∧ (0 ≤ (w32 (l3 + 2)) ∧ (w32 (l3 + 2)) < (w.1 : Int)) ∧ (0 ≤ (w32 (l3 + 3)) ∧ (w32 (l3 + 3)) < (w.1 : Int)) ∧ zclI w d 146 [zR 32, zI (zH0 w.2 0 (w32 (l3 + 1))), zI (zH0 w.2 0 (w32 (l3 + 2))), zI (zH0 w.2 0 (w32 (l3 + 3)))] H (fun x5 H4 => zclI w d 256 [zR 81, zI (zH0 w.2 0 (w32 (l3 + 1))), zI (zH0 w.2 0 (w32 (l3 + 2))), zI (zH0 w.2 0 (w32 (l3 + 3)))] H4 (fun x7 H6 => (x5 = x7 → zgo w (d + 1) 0 2245 [zR 0, zR 32, zR 81, zI l3] [] H6 (zQI K)) ∧ (¬ x5 = x7 → K 0 H6)))) :
    zgo w (d + 1) 0 1855 [zR 0, zR 32, zR 81, zI l3] [] H (zQI K) := by
  refine g_al zp0 (zf0_20 (k := 55) rfl) rfl rfl (by decide) ?_
  refine g_al zp0 (zf0_20 (k := 56) rfl) rfl rfl (by decide) ?_
  refine g_il zp0 (zf0_20 (k := 57) rfl) rfl rfl ?_
  refine g_ic zp0 (zf0_20 (k := 58) rfl) rfl ?_
  refine g_ar (r := w32 (l3 + 1)) zp0 (zf0_20 (k := 59) rfl) rfl rfl ?_
  obtain ⟨c1, h⟩ := h
  refine g_ald (v := zI (zH0 w.2 0 (w32 (l3 + 1)))) zp0 (zf0_20 (k := 60) rfl) rfl rfl rfl c1 rfl ?_
  refine g_al zp0 (zf0_20 (k := 61) rfl) rfl rfl (by decide) ?_
  refine g_il zp0 (zf0_20 (k := 62) rfl) rfl rfl ?_
  refine g_ic zp0 (zf0_20 (k := 63) rfl) rfl ?_
  refine g_ar (r := w32 (l3 + 2)) zp0 (zf0_20 (k := 64) rfl) rfl rfl ?_
  obtain ⟨c2, h⟩ := h
  refine g_ald (v := zI (zH0 w.2 0 (w32 (l3 + 2)))) zp0 (zf0_20 (k := 65) rfl) rfl rfl rfl c2 rfl ?_
  refine g_al zp0 (zf0_20 (k := 66) rfl) rfl rfl (by decide) ?_
  refine g_il zp0 (zf0_20 (k := 67) rfl) rfl rfl ?_
  refine g_ic zp0 (zf0_20 (k := 68) rfl) rfl ?_
  refine g_ar (r := w32 (l3 + 3)) zp0 (zf0_20 (k := 69) rfl) rfl rfl ?_
  obtain ⟨c3, h⟩ := h
  refine g_ald (v := zI (zH0 w.2 0 (w32 (l3 + 3)))) zp0 (zf0_20 (k := 70) rfl) rfl rfl rfl c3 rfl ?_
  refine g_callI (as := [zR 32, zI (zH0 w.2 0 (w32 (l3 + 1))), zI (zH0 w.2 0 (w32 (l3 + 2))), zI (zH0 w.2 0 (w32 (l3 + 3)))]) (rest := []) zp0 (zf0_20 (k := 71) rfl) rfl (Nat.succ_pos _) rfl rfl (Nat.le_of_ble_eq_true rfl) (Nat.le_of_ble_eq_true rfl) rfl rfl h (fun x5 H4 h => ?_)
  refine g_al zp0 (zf0_20 (k := 74) rfl) rfl rfl (by decide) ?_
  refine g_al zp0 (zf0_20 (k := 75) rfl) rfl rfl (by decide) ?_
  refine g_il zp0 (zf0_20 (k := 76) rfl) rfl rfl ?_
  refine g_ic zp0 (zf0_20 (k := 77) rfl) rfl ?_
  refine g_ar (r := w32 (l3 + 1)) zp0 (zf0_20 (k := 78) rfl) rfl rfl ?_
  refine g_ald (v := zI (zH0 w.2 0 (w32 (l3 + 1)))) zp0 (zf0_20 (k := 79) rfl) rfl rfl rfl c1 rfl ?_
  refine g_al zp0 (zf0_20 (k := 80) rfl) rfl rfl (by decide) ?_
  refine g_il zp0 (zf0_20 (k := 81) rfl) rfl rfl ?_
  refine g_ic zp0 (zf0_20 (k := 82) rfl) rfl ?_
  refine g_ar (r := w32 (l3 + 2)) zp0 (zf0_20 (k := 83) rfl) rfl rfl ?_
  refine g_ald (v := zI (zH0 w.2 0 (w32 (l3 + 2)))) zp0 (zf0_20 (k := 84) rfl) rfl rfl rfl c2 rfl ?_
  refine g_al zp0 (zf0_20 (k := 85) rfl) rfl rfl (by decide) ?_
  refine g_il zp0 (zf0_20 (k := 86) rfl) rfl rfl ?_
  refine g_ic zp0 (zf0_20 (k := 87) rfl) rfl ?_
  refine g_ar (r := w32 (l3 + 3)) zp0 (zf0_20 (k := 88) rfl) rfl rfl ?_
  refine g_ald (v := zI (zH0 w.2 0 (w32 (l3 + 3)))) zp0 (zf0_20 (k := 89) rfl) rfl rfl rfl c3 rfl ?_
  refine g_callI (as := [zR 81, zI (zH0 w.2 0 (w32 (l3 + 1))), zI (zH0 w.2 0 (w32 (l3 + 2))), zI (zH0 w.2 0 (w32 (l3 + 3)))]) (rest := [zI x5]) zp0 (zf0_21 (k := 0) rfl) rfl (Nat.succ_pos _) rfl rfl (Nat.le_of_ble_eq_true rfl) (Nat.le_of_ble_eq_true rfl) rfl rfl h (fun x7 H6 h => ?_)
  refine g_icmp zp0 (zf0_21 (k := 3) rfl) rfl zc0 (fun c8 => ?_) (fun c8 => ?_)
  · replace h := h.1 c8
    exact g_weak (ls' := [zR 0, zR 32, zR 81, zI l3]) ⟨Or.inr rfl, Or.inr rfl, Or.inr rfl, Or.inr rfl, trivial⟩ h
  · replace h := h.2 c8
    refine g_ic zp0 (zf0_21 (k := 6) rfl) rfl ?_
    exact g_ret zp0 (zf0_21 (k := 7) rfl) (zret_b (by decide)) ⟨_, rfl, h⟩
set_option maxRecDepth 40000 in
theorem x0_1898 {w : zWt} {d : Nat} {H : zHt} {K : Int → zHt → Prop} {l3 : Int}
    (h : (0 ≤ (w32 (l3 + 1)) ∧ (w32 (l3 + 1)) < (w.1 : Int)) ∧ (0 ≤ (w32 (l3 + 2)) ∧ (w32 (l3 + 2)) < (w.1 : Int)) ∧ (0 ≤ (w32 (l3 + 3)) ∧ (w32 (l3 + 3)) < (w.1 : Int)) ∧ zclI w d 147 [zR 32, zI (zH0 w.2 0 (w32 (l3 + 1))), zI (zH0 w.2 0 (w32 (l3 + 2))), zI (zH0 w.2 0 (w32 (l3 + 3)))] H (fun x5 H4 => zclI w d 257 [zR 81, zI (zH0 w.2 0 (w32 (l3 + 1))), zI (zH0 w.2 0 (w32 (l3 + 2))), zI (zH0 w.2 0 (w32 (l3 + 3)))] H4 (fun x7 H6 => (x5 = x7 → zgo w (d + 1) 0 2245 [zR 0, zR 32, zR 81, zI l3] [] H6 (zQI K)) ∧ (¬ x5 = x7 → K 0 H6)))) :
    zgo w (d + 1) 0 1898 [zR 0, zR 32, zR 81, zI l3] [] H (zQI K) := by
  refine g_al zp0 (zf0_21 (k := 8) rfl) rfl rfl (by decide) ?_
  refine g_al zp0 (zf0_21 (k := 9) rfl) rfl rfl (by decide) ?_
  refine g_il zp0 (zf0_21 (k := 10) rfl) rfl rfl ?_
  refine g_ic zp0 (zf0_21 (k := 11) rfl) rfl ?_
  refine g_ar (r := w32 (l3 + 1)) zp0 (zf0_21 (k := 12) rfl) rfl rfl ?_
  obtain ⟨c1, h⟩ := h
  refine g_ald (v := zI (zH0 w.2 0 (w32 (l3 + 1)))) zp0 (zf0_21 (k := 13) rfl) rfl rfl rfl c1 rfl ?_
  refine g_al zp0 (zf0_21 (k := 14) rfl) rfl rfl (by decide) ?_
  refine g_il zp0 (zf0_21 (k := 15) rfl) rfl rfl ?_
  refine g_ic zp0 (zf0_21 (k := 16) rfl) rfl ?_
  refine g_ar (r := w32 (l3 + 2)) zp0 (zf0_21 (k := 17) rfl) rfl rfl ?_
  obtain ⟨c2, h⟩ := h
  refine g_ald (v := zI (zH0 w.2 0 (w32 (l3 + 2)))) zp0 (zf0_21 (k := 18) rfl) rfl rfl rfl c2 rfl ?_
  refine g_al zp0 (zf0_21 (k := 19) rfl) rfl rfl (by decide) ?_
  refine g_il zp0 (zf0_21 (k := 20) rfl) rfl rfl ?_
  refine g_ic zp0 (zf0_21 (k := 21) rfl) rfl ?_
  refine g_ar (r := w32 (l3 + 3)) zp0 (zf0_21 (k := 22) rfl) rfl rfl ?_
  obtain ⟨c3, h⟩ := h
  refine g_ald (v := zI (zH0 w.2 0 (w32 (l3 + 3)))) zp0 (zf0_21 (k := 23) rfl) rfl rfl rfl c3 rfl ?_
  refine g_callI (as := [zR 32, zI (zH0 w.2 0 (w32 (l3 + 1))), zI (zH0 w.2 0 (w32 (l3 + 2))), zI (zH0 w.2 0 (w32 (l3 + 3)))]) (rest := []) zp0 (zf0_21 (k := 24) rfl) rfl (Nat.succ_pos _) rfl rfl (Nat.le_of_ble_eq_true rfl) (Nat.le_of_ble_eq_true rfl) rfl rfl h (fun x5 H4 h => ?_)
  refine g_al zp0 (zf0_21 (k := 27) rfl) rfl rfl (by decide) ?_
  refine g_al zp0 (zf0_21 (k := 28) rfl) rfl rfl (by decide) ?_
  refine g_il zp0 (zf0_21 (k := 29) rfl) rfl rfl ?_
  refine g_ic zp0 (zf0_21 (k := 30) rfl) rfl ?_
  refine g_ar (r := w32 (l3 + 1)) zp0 (zf0_21 (k := 31) rfl) rfl rfl ?_
  refine g_ald (v := zI (zH0 w.2 0 (w32 (l3 + 1)))) zp0 (zf0_21 (k := 32) rfl) rfl rfl rfl c1 rfl ?_
  refine g_al zp0 (zf0_21 (k := 33) rfl) rfl rfl (by decide) ?_
  refine g_il zp0 (zf0_21 (k := 34) rfl) rfl rfl ?_
  refine g_ic zp0 (zf0_21 (k := 35) rfl) rfl ?_
  refine g_ar (r := w32 (l3 + 2)) zp0 (zf0_21 (k := 36) rfl) rfl rfl ?_
  refine g_ald (v := zI (zH0 w.2 0 (w32 (l3 + 2)))) zp0 (zf0_21 (k := 37) rfl) rfl rfl rfl c2 rfl ?_
  refine g_al zp0 (zf0_21 (k := 38) rfl) rfl rfl (by decide) ?_
  refine g_il zp0 (zf0_21 (k := 39) rfl) rfl rfl ?_
  refine g_ic zp0 (zf0_21 (k := 40) rfl) rfl ?_
  refine g_ar (r := w32 (l3 + 3)) zp0 (zf0_21 (k := 41) rfl) rfl rfl ?_
  refine g_ald (v := zI (zH0 w.2 0 (w32 (l3 + 3)))) zp0 (zf0_21 (k := 42) rfl) rfl rfl rfl c3 rfl ?_
  refine g_callI (as := [zR 81, zI (zH0 w.2 0 (w32 (l3 + 1))), zI (zH0 w.2 0 (w32 (l3 + 2))), zI (zH0 w.2 0 (w32 (l3 + 3)))]) (rest := [zI x5]) zp0 (zf0_21 (k := 43) rfl) rfl (Nat.succ_pos _) rfl rfl (Nat.le_of_ble_eq_true rfl) (Nat.le_of_ble_eq_true rfl) rfl rfl h (fun x7 H6 h => ?_)
  refine g_icmp zp0 (zf0_21 (k := 46) rfl) rfl zc0 (fun c8 => ?_) (fun c8 => ?_)
  · replace h := h.1 c8
    exact g_weak (ls' := [zR 0, zR 32, zR 81, zI l3]) ⟨Or.inr rfl, Or.inr rfl, Or.inr rfl, Or.inr rfl, trivial⟩ h
  · replace h := h.2 c8
    refine g_ic zp0 (zf0_21 (k := 49) rfl) rfl ?_
    exact g_ret zp0 (zf0_21 (k := 50) rfl) (zret_b (by decide)) ⟨_, rfl, h⟩
set_option maxRecDepth 40000 in
theorem x0_1941 {w : zWt} {d : Nat} {H : zHt} {K : Int → zHt → Prop} {l3 : Int}
    (h : (0 ≤ (w32 (l3 + 1)) ∧ (w32 (l3 + 1)) < (w.1 : Int)) ∧ (0 ≤ (w32 (l3 + 2)) ∧ (w32 (l3 + 2)) < (w.1 : Int)) ∧ zclI w d 150 [zR 32, zI (zH0 w.2 0 (w32 (l3 + 1))), zI (zH0 w.2 0 (w32 (l3 + 2)))] H (fun x4 H3 => zclI w d 259 [zR 81, zI (zH0 w.2 0 (w32 (l3 + 1))), zI (zH0 w.2 0 (w32 (l3 + 2)))] H3 (fun x6 H5 => (x4 = x6 → zgo w (d + 1) 0 2245 [zR 0, zR 32, zR 81, zI l3] [] H5 (zQI K)) ∧ (¬ x4 = x6 → K 0 H5)))) :
    zgo w (d + 1) 0 1941 [zR 0, zR 32, zR 81, zI l3] [] H (zQI K) := by
  refine g_al zp0 (zf0_21 (k := 51) rfl) rfl rfl (by decide) ?_
  refine g_al zp0 (zf0_21 (k := 52) rfl) rfl rfl (by decide) ?_
  refine g_il zp0 (zf0_21 (k := 53) rfl) rfl rfl ?_
  refine g_ic zp0 (zf0_21 (k := 54) rfl) rfl ?_
  refine g_ar (r := w32 (l3 + 1)) zp0 (zf0_21 (k := 55) rfl) rfl rfl ?_
  obtain ⟨c1, h⟩ := h
  refine g_ald (v := zI (zH0 w.2 0 (w32 (l3 + 1)))) zp0 (zf0_21 (k := 56) rfl) rfl rfl rfl c1 rfl ?_
  refine g_al zp0 (zf0_21 (k := 57) rfl) rfl rfl (by decide) ?_
  refine g_il zp0 (zf0_21 (k := 58) rfl) rfl rfl ?_
  refine g_ic zp0 (zf0_21 (k := 59) rfl) rfl ?_
  refine g_ar (r := w32 (l3 + 2)) zp0 (zf0_21 (k := 60) rfl) rfl rfl ?_
  obtain ⟨c2, h⟩ := h
  refine g_ald (v := zI (zH0 w.2 0 (w32 (l3 + 2)))) zp0 (zf0_21 (k := 61) rfl) rfl rfl rfl c2 rfl ?_
  refine g_callI (as := [zR 32, zI (zH0 w.2 0 (w32 (l3 + 1))), zI (zH0 w.2 0 (w32 (l3 + 2)))]) (rest := []) zp0 (zf0_21 (k := 62) rfl) rfl (Nat.succ_pos _) rfl rfl (Nat.le_of_ble_eq_true rfl) (Nat.le_of_ble_eq_true rfl) rfl rfl h (fun x4 H3 h => ?_)
  refine g_al zp0 (zf0_21 (k := 65) rfl) rfl rfl (by decide) ?_
  refine g_al zp0 (zf0_21 (k := 66) rfl) rfl rfl (by decide) ?_
  refine g_il zp0 (zf0_21 (k := 67) rfl) rfl rfl ?_
  refine g_ic zp0 (zf0_21 (k := 68) rfl) rfl ?_
  refine g_ar (r := w32 (l3 + 1)) zp0 (zf0_21 (k := 69) rfl) rfl rfl ?_
  refine g_ald (v := zI (zH0 w.2 0 (w32 (l3 + 1)))) zp0 (zf0_21 (k := 70) rfl) rfl rfl rfl c1 rfl ?_
  refine g_al zp0 (zf0_21 (k := 71) rfl) rfl rfl (by decide) ?_
  refine g_il zp0 (zf0_21 (k := 72) rfl) rfl rfl ?_
  refine g_ic zp0 (zf0_21 (k := 73) rfl) rfl ?_
  refine g_ar (r := w32 (l3 + 2)) zp0 (zf0_21 (k := 74) rfl) rfl rfl ?_
  refine g_ald (v := zI (zH0 w.2 0 (w32 (l3 + 2)))) zp0 (zf0_21 (k := 75) rfl) rfl rfl rfl c2 rfl ?_
  refine g_callI (as := [zR 81, zI (zH0 w.2 0 (w32 (l3 + 1))), zI (zH0 w.2 0 (w32 (l3 + 2)))]) (rest := [zI x4]) zp0 (zf0_21 (k := 76) rfl) rfl (Nat.succ_pos _) rfl rfl (Nat.le_of_ble_eq_true rfl) (Nat.le_of_ble_eq_true rfl) rfl rfl h (fun x6 H5 h => ?_)
  refine g_icmp zp0 (zf0_21 (k := 79) rfl) rfl zc0 (fun c7 => ?_) (fun c7 => ?_)
  · replace h := h.1 c7
    exact g_weak (ls' := [zR 0, zR 32, zR 81, zI l3]) ⟨Or.inr rfl, Or.inr rfl, Or.inr rfl, Or.inr rfl, trivial⟩ h
  · replace h := h.2 c7
    refine g_ic zp0 (zf0_21 (k := 82) rfl) rfl ?_
    exact g_ret zp0 (zf0_21 (k := 83) rfl) (zret_b (by decide)) ⟨_, rfl, h⟩
set_option maxRecDepth 40000 in
theorem x0_1974 {w : zWt} {d : Nat} {H : zHt} {K : Int → zHt → Prop} {l3 : Int}
    (h : (0 ≤ (w32 (l3 + 1)) ∧ (w32 (l3 + 1)) < (w.1 : Int)) ∧ (0 ≤ (w32 (l3 + 2)) ∧ (w32 (l3 + 2)) < (w.1 : Int)) ∧ (0 ≤ (w32 (l3 + 3)) ∧ (w32 (l3 + 3)) < (w.1 : Int)) ∧ zclL w d 151 [zR 32, zI (zH0 w.2 0 (w32 (l3 + 1))), zI (zH0 w.2 0 (w32 (l3 + 2))), zI (zH0 w.2 0 (w32 (l3 + 3)))] H (fun x5 H4 => zclL w d 260 [zR 81, zI (zH0 w.2 0 (w32 (l3 + 1))), zI (zH0 w.2 0 (w32 (l3 + 2))), zI (zH0 w.2 0 (w32 (l3 + 3)))] H4 (fun x7 H6 => (x5 = x7 → zgo w (d + 1) 0 2245 [zR 0, zR 32, zR 81, zI l3] [] H6 (zQI K)) ∧ (¬ x5 = x7 → K 0 H6)))) :
    zgo w (d + 1) 0 1974 [zR 0, zR 32, zR 81, zI l3] [] H (zQI K) := by
  refine g_al zp0 (zf0_21 (k := 84) rfl) rfl rfl (by decide) ?_
  refine g_al zp0 (zf0_21 (k := 85) rfl) rfl rfl (by decide) ?_
  refine g_il zp0 (zf0_21 (k := 86) rfl) rfl rfl ?_
  refine g_ic zp0 (zf0_21 (k := 87) rfl) rfl ?_
  refine g_ar (r := w32 (l3 + 1)) zp0 (zf0_21 (k := 88) rfl) rfl rfl ?_
  obtain ⟨c1, h⟩ := h
  refine g_ald (v := zI (zH0 w.2 0 (w32 (l3 + 1)))) zp0 (zf0_21 (k := 89) rfl) rfl rfl rfl c1 rfl ?_
  refine g_al zp0 (zf0_22 (k := 0) rfl) rfl rfl (by decide) ?_
  refine g_il zp0 (zf0_22 (k := 1) rfl) rfl rfl ?_
  refine g_ic zp0 (zf0_22 (k := 2) rfl) rfl ?_
  refine g_ar (r := w32 (l3 + 2)) zp0 (zf0_22 (k := 3) rfl) rfl rfl ?_
  obtain ⟨c2, h⟩ := h
  refine g_ald (v := zI (zH0 w.2 0 (w32 (l3 + 2)))) zp0 (zf0_22 (k := 4) rfl) rfl rfl rfl c2 rfl ?_
  refine g_al zp0 (zf0_22 (k := 5) rfl) rfl rfl (by decide) ?_
  refine g_il zp0 (zf0_22 (k := 6) rfl) rfl rfl ?_
  refine g_ic zp0 (zf0_22 (k := 7) rfl) rfl ?_
  refine g_ar (r := w32 (l3 + 3)) zp0 (zf0_22 (k := 8) rfl) rfl rfl ?_
  obtain ⟨c3, h⟩ := h
  refine g_ald (v := zI (zH0 w.2 0 (w32 (l3 + 3)))) zp0 (zf0_22 (k := 9) rfl) rfl rfl rfl c3 rfl ?_
  refine g_callL (as := [zR 32, zI (zH0 w.2 0 (w32 (l3 + 1))), zI (zH0 w.2 0 (w32 (l3 + 2))), zI (zH0 w.2 0 (w32 (l3 + 3)))]) (rest := []) zp0 (zf0_22 (k := 10) rfl) rfl (Nat.succ_pos _) rfl rfl (Nat.le_of_ble_eq_true rfl) (Nat.le_of_ble_eq_true rfl) rfl rfl h (fun x5 H4 h => ?_)
  refine g_al zp0 (zf0_22 (k := 13) rfl) rfl rfl (by decide) ?_
  refine g_al zp0 (zf0_22 (k := 14) rfl) rfl rfl (by decide) ?_
  refine g_il zp0 (zf0_22 (k := 15) rfl) rfl rfl ?_
  refine g_ic zp0 (zf0_22 (k := 16) rfl) rfl ?_
  refine g_ar (r := w32 (l3 + 1)) zp0 (zf0_22 (k := 17) rfl) rfl rfl ?_
  refine g_ald (v := zI (zH0 w.2 0 (w32 (l3 + 1)))) zp0 (zf0_22 (k := 18) rfl) rfl rfl rfl c1 rfl ?_
  refine g_al zp0 (zf0_22 (k := 19) rfl) rfl rfl (by decide) ?_
  refine g_il zp0 (zf0_22 (k := 20) rfl) rfl rfl ?_
  refine g_ic zp0 (zf0_22 (k := 21) rfl) rfl ?_
  refine g_ar (r := w32 (l3 + 2)) zp0 (zf0_22 (k := 22) rfl) rfl rfl ?_
  refine g_ald (v := zI (zH0 w.2 0 (w32 (l3 + 2)))) zp0 (zf0_22 (k := 23) rfl) rfl rfl rfl c2 rfl ?_
  refine g_al zp0 (zf0_22 (k := 24) rfl) rfl rfl (by decide) ?_
  refine g_il zp0 (zf0_22 (k := 25) rfl) rfl rfl ?_
  refine g_ic zp0 (zf0_22 (k := 26) rfl) rfl ?_
  refine g_ar (r := w32 (l3 + 3)) zp0 (zf0_22 (k := 27) rfl) rfl rfl ?_
  refine g_ald (v := zI (zH0 w.2 0 (w32 (l3 + 3)))) zp0 (zf0_22 (k := 28) rfl) rfl rfl rfl c3 rfl ?_
  refine g_callL (as := [zR 81, zI (zH0 w.2 0 (w32 (l3 + 1))), zI (zH0 w.2 0 (w32 (l3 + 2))), zI (zH0 w.2 0 (w32 (l3 + 3)))]) (rest := [zL x5]) zp0 (zf0_22 (k := 29) rfl) rfl (Nat.succ_pos _) rfl rfl (Nat.le_of_ble_eq_true rfl) (Nat.le_of_ble_eq_true rfl) rfl rfl h (fun x7 H6 h => ?_)
  refine g_lcmp zp0 (zf0_22 (k := 32) rfl) rfl (zf0_22 (k := 33) rfl) rfl zc0 (fun c8 => ?_) (fun c8 => ?_)
  · replace h := h.1 c8
    exact g_weak (ls' := [zR 0, zR 32, zR 81, zI l3]) ⟨Or.inr rfl, Or.inr rfl, Or.inr rfl, Or.inr rfl, trivial⟩ h
  · replace h := h.2 c8
    refine g_ic zp0 (zf0_22 (k := 36) rfl) rfl ?_
    exact g_ret zp0 (zf0_22 (k := 37) rfl) (zret_b (by decide)) ⟨_, rfl, h⟩
set_option maxRecDepth 40000 in
theorem x0_2018 {w : zWt} {d : Nat} {H : zHt} {K : Int → zHt → Prop} {l3 : Int}
    (h : (0 ≤ (w32 (l3 + 1)) ∧ (w32 (l3 + 1)) < (w.1 : Int)) ∧ zclI w d 152 [zR 32, zI (zH0 w.2 0 (w32 (l3 + 1)))] H (fun x3 H2 => zclI w d 261 [zR 81, zI (zH0 w.2 0 (w32 (l3 + 1)))] H2 (fun x5 H4 => (x3 = x5 → zgo w (d + 1) 0 2245 [zR 0, zR 32, zR 81, zI l3] [] H4 (zQI K)) ∧ (¬ x3 = x5 → K 0 H4)))) :
    zgo w (d + 1) 0 2018 [zR 0, zR 32, zR 81, zI l3] [] H (zQI K) := by
  refine g_al zp0 (zf0_22 (k := 38) rfl) rfl rfl (by decide) ?_
  refine g_al zp0 (zf0_22 (k := 39) rfl) rfl rfl (by decide) ?_
  refine g_il zp0 (zf0_22 (k := 40) rfl) rfl rfl ?_
  refine g_ic zp0 (zf0_22 (k := 41) rfl) rfl ?_
  refine g_ar (r := w32 (l3 + 1)) zp0 (zf0_22 (k := 42) rfl) rfl rfl ?_
  obtain ⟨c1, h⟩ := h
  refine g_ald (v := zI (zH0 w.2 0 (w32 (l3 + 1)))) zp0 (zf0_22 (k := 43) rfl) rfl rfl rfl c1 rfl ?_
  refine g_callI (as := [zR 32, zI (zH0 w.2 0 (w32 (l3 + 1)))]) (rest := []) zp0 (zf0_22 (k := 44) rfl) rfl (Nat.succ_pos _) rfl rfl (Nat.le_of_ble_eq_true rfl) (Nat.le_of_ble_eq_true rfl) rfl rfl h (fun x3 H2 h => ?_)
  refine g_al zp0 (zf0_22 (k := 47) rfl) rfl rfl (by decide) ?_
  refine g_al zp0 (zf0_22 (k := 48) rfl) rfl rfl (by decide) ?_
  refine g_il zp0 (zf0_22 (k := 49) rfl) rfl rfl ?_
  refine g_ic zp0 (zf0_22 (k := 50) rfl) rfl ?_
  refine g_ar (r := w32 (l3 + 1)) zp0 (zf0_22 (k := 51) rfl) rfl rfl ?_
  refine g_ald (v := zI (zH0 w.2 0 (w32 (l3 + 1)))) zp0 (zf0_22 (k := 52) rfl) rfl rfl rfl c1 rfl ?_
  refine g_callI (as := [zR 81, zI (zH0 w.2 0 (w32 (l3 + 1)))]) (rest := [zI x3]) zp0 (zf0_22 (k := 53) rfl) rfl (Nat.succ_pos _) rfl rfl (Nat.le_of_ble_eq_true rfl) (Nat.le_of_ble_eq_true rfl) rfl rfl h (fun x5 H4 h => ?_)
  refine g_icmp zp0 (zf0_22 (k := 56) rfl) rfl zc0 (fun c6 => ?_) (fun c6 => ?_)
  · replace h := h.1 c6
    exact g_weak (ls' := [zR 0, zR 32, zR 81, zI l3]) ⟨Or.inr rfl, Or.inr rfl, Or.inr rfl, Or.inr rfl, trivial⟩ h
  · replace h := h.2 c6
    refine g_ic zp0 (zf0_22 (k := 59) rfl) rfl ?_
    exact g_ret zp0 (zf0_22 (k := 60) rfl) (zret_b (by decide)) ⟨_, rfl, h⟩
set_option maxRecDepth 40000 in
theorem x0_2041 {w : zWt} {d : Nat} {H : zHt} {K : Int → zHt → Prop} {l3 : Int}
    (h : (0 ≤ (w32 (l3 + 1)) ∧ (w32 (l3 + 1)) < (w.1 : Int)) ∧ (0 ≤ (w32 (l3 + 2)) ∧ (w32 (l3 + 2)) < (w.1 : Int)) ∧ zclI w d 155 [zR 32, zI (zH0 w.2 0 (w32 (l3 + 1))), zI (zH0 w.2 0 (w32 (l3 + 2)))] H (fun x4 H3 => zclI w d 263 [zR 81, zI (zH0 w.2 0 (w32 (l3 + 1))), zI (zH0 w.2 0 (w32 (l3 + 2)))] H3 (fun x6 H5 => (x4 = x6 → zgo w (d + 1) 0 2245 [zR 0, zR 32, zR 81, zI l3] [] H5 (zQI K)) ∧ (¬ x4 = x6 → K 0 H5)))) :
    zgo w (d + 1) 0 2041 [zR 0, zR 32, zR 81, zI l3] [] H (zQI K) := by
  refine g_al zp0 (zf0_22 (k := 61) rfl) rfl rfl (by decide) ?_
  refine g_al zp0 (zf0_22 (k := 62) rfl) rfl rfl (by decide) ?_
  refine g_il zp0 (zf0_22 (k := 63) rfl) rfl rfl ?_
  refine g_ic zp0 (zf0_22 (k := 64) rfl) rfl ?_
  refine g_ar (r := w32 (l3 + 1)) zp0 (zf0_22 (k := 65) rfl) rfl rfl ?_
  obtain ⟨c1, h⟩ := h
  refine g_ald (v := zI (zH0 w.2 0 (w32 (l3 + 1)))) zp0 (zf0_22 (k := 66) rfl) rfl rfl rfl c1 rfl ?_
  refine g_al zp0 (zf0_22 (k := 67) rfl) rfl rfl (by decide) ?_
  refine g_il zp0 (zf0_22 (k := 68) rfl) rfl rfl ?_
  refine g_ic zp0 (zf0_22 (k := 69) rfl) rfl ?_
  refine g_ar (r := w32 (l3 + 2)) zp0 (zf0_22 (k := 70) rfl) rfl rfl ?_
  obtain ⟨c2, h⟩ := h
  refine g_ald (v := zI (zH0 w.2 0 (w32 (l3 + 2)))) zp0 (zf0_22 (k := 71) rfl) rfl rfl rfl c2 rfl ?_
  refine g_callI (as := [zR 32, zI (zH0 w.2 0 (w32 (l3 + 1))), zI (zH0 w.2 0 (w32 (l3 + 2)))]) (rest := []) zp0 (zf0_22 (k := 72) rfl) rfl (Nat.succ_pos _) rfl rfl (Nat.le_of_ble_eq_true rfl) (Nat.le_of_ble_eq_true rfl) rfl rfl h (fun x4 H3 h => ?_)
  refine g_al zp0 (zf0_22 (k := 75) rfl) rfl rfl (by decide) ?_
  refine g_al zp0 (zf0_22 (k := 76) rfl) rfl rfl (by decide) ?_
  refine g_il zp0 (zf0_22 (k := 77) rfl) rfl rfl ?_
  refine g_ic zp0 (zf0_22 (k := 78) rfl) rfl ?_
  refine g_ar (r := w32 (l3 + 1)) zp0 (zf0_22 (k := 79) rfl) rfl rfl ?_
  refine g_ald (v := zI (zH0 w.2 0 (w32 (l3 + 1)))) zp0 (zf0_22 (k := 80) rfl) rfl rfl rfl c1 rfl ?_
  refine g_al zp0 (zf0_22 (k := 81) rfl) rfl rfl (by decide) ?_
  refine g_il zp0 (zf0_22 (k := 82) rfl) rfl rfl ?_
  refine g_ic zp0 (zf0_22 (k := 83) rfl) rfl ?_
  refine g_ar (r := w32 (l3 + 2)) zp0 (zf0_22 (k := 84) rfl) rfl rfl ?_
  refine g_ald (v := zI (zH0 w.2 0 (w32 (l3 + 2)))) zp0 (zf0_22 (k := 85) rfl) rfl rfl rfl c2 rfl ?_
  refine g_callI (as := [zR 81, zI (zH0 w.2 0 (w32 (l3 + 1))), zI (zH0 w.2 0 (w32 (l3 + 2)))]) (rest := [zI x4]) zp0 (zf0_22 (k := 86) rfl) rfl (Nat.succ_pos _) rfl rfl (Nat.le_of_ble_eq_true rfl) (Nat.le_of_ble_eq_true rfl) rfl rfl h (fun x6 H5 h => ?_)
  refine g_icmp zp0 (zf0_22 (k := 89) rfl) rfl zc0 (fun c7 => ?_) (fun c7 => ?_)
  · replace h := h.1 c7
    exact g_weak (ls' := [zR 0, zR 32, zR 81, zI l3]) ⟨Or.inr rfl, Or.inr rfl, Or.inr rfl, Or.inr rfl, trivial⟩ h
  · replace h := h.2 c7
    refine g_ic zp0 (zf0_23 (k := 2) rfl) rfl ?_
    exact g_ret zp0 (zf0_23 (k := 3) rfl) (zret_b (by decide)) ⟨_, rfl, h⟩
set_option maxRecDepth 40000 in
theorem x0_2074 {w : zWt} {d : Nat} {H : zHt} {K : Int → zHt → Prop} {l3 : Int}
    (h : (0 ≤ (w32 (l3 + 1)) ∧ (w32 (l3 + 1)) < (w.1 : Int)) ∧ zclI w d 157 [zR 32, zI (zH0 w.2 0 (w32 (l3 + 1)))] H (fun x3 H2 => zclI w d 264 [zR 81, zI (zH0 w.2 0 (w32 (l3 + 1)))] H2 (fun x5 H4 => (x3 = x5 → zgo w (d + 1) 0 2245 [zR 0, zR 32, zR 81, zI l3] [] H4 (zQI K)) ∧ (¬ x3 = x5 → K 0 H4)))) :
    zgo w (d + 1) 0 2074 [zR 0, zR 32, zR 81, zI l3] [] H (zQI K) := by
  refine g_al zp0 (zf0_23 (k := 4) rfl) rfl rfl (by decide) ?_
  refine g_al zp0 (zf0_23 (k := 5) rfl) rfl rfl (by decide) ?_
  refine g_il zp0 (zf0_23 (k := 6) rfl) rfl rfl ?_
  refine g_ic zp0 (zf0_23 (k := 7) rfl) rfl ?_
  refine g_ar (r := w32 (l3 + 1)) zp0 (zf0_23 (k := 8) rfl) rfl rfl ?_
  obtain ⟨c1, h⟩ := h
  refine g_ald (v := zI (zH0 w.2 0 (w32 (l3 + 1)))) zp0 (zf0_23 (k := 9) rfl) rfl rfl rfl c1 rfl ?_
  refine g_callI (as := [zR 32, zI (zH0 w.2 0 (w32 (l3 + 1)))]) (rest := []) zp0 (zf0_23 (k := 10) rfl) rfl (Nat.succ_pos _) rfl rfl (Nat.le_of_ble_eq_true rfl) (Nat.le_of_ble_eq_true rfl) rfl rfl h (fun x3 H2 h => ?_)
  refine g_al zp0 (zf0_23 (k := 13) rfl) rfl rfl (by decide) ?_
  refine g_al zp0 (zf0_23 (k := 14) rfl) rfl rfl (by decide) ?_
  refine g_il zp0 (zf0_23 (k := 15) rfl) rfl rfl ?_
  refine g_ic zp0 (zf0_23 (k := 16) rfl) rfl ?_
  refine g_ar (r := w32 (l3 + 1)) zp0 (zf0_23 (k := 17) rfl) rfl rfl ?_
  refine g_ald (v := zI (zH0 w.2 0 (w32 (l3 + 1)))) zp0 (zf0_23 (k := 18) rfl) rfl rfl rfl c1 rfl ?_
  refine g_callI (as := [zR 81, zI (zH0 w.2 0 (w32 (l3 + 1)))]) (rest := [zI x3]) zp0 (zf0_23 (k := 19) rfl) rfl (Nat.succ_pos _) rfl rfl (Nat.le_of_ble_eq_true rfl) (Nat.le_of_ble_eq_true rfl) rfl rfl h (fun x5 H4 h => ?_)
  refine g_icmp zp0 (zf0_23 (k := 22) rfl) rfl zc0 (fun c6 => ?_) (fun c6 => ?_)
  · replace h := h.1 c6
    exact g_weak (ls' := [zR 0, zR 32, zR 81, zI l3]) ⟨Or.inr rfl, Or.inr rfl, Or.inr rfl, Or.inr rfl, trivial⟩ h
  · replace h := h.2 c6
    refine g_ic zp0 (zf0_23 (k := 25) rfl) rfl ?_
    exact g_ret zp0 (zf0_23 (k := 26) rfl) (zret_b (by decide)) ⟨_, rfl, h⟩
set_option maxRecDepth 40000 in
theorem x0_2097 {w : zWt} {d : Nat} {H : zHt} {K : Int → zHt → Prop} {l3 : Int}
    (h : (0 ≤ (w32 (l3 + 1)) ∧ (w32 (l3 + 1)) < (w.1 : Int)) ∧ zclI w d 159 [zR 32, zI (zH0 w.2 0 (w32 (l3 + 1)))] H (fun x3 H2 => zclI w d 265 [zR 81, zI (zH0 w.2 0 (w32 (l3 + 1)))] H2 (fun x5 H4 => (x3 = x5 → zgo w (d + 1) 0 2245 [zR 0, zR 32, zR 81, zI l3] [] H4 (zQI K)) ∧ (¬ x3 = x5 → K 0 H4)))) :
    zgo w (d + 1) 0 2097 [zR 0, zR 32, zR 81, zI l3] [] H (zQI K) := by
  refine g_al zp0 (zf0_23 (k := 27) rfl) rfl rfl (by decide) ?_
  refine g_al zp0 (zf0_23 (k := 28) rfl) rfl rfl (by decide) ?_
  refine g_il zp0 (zf0_23 (k := 29) rfl) rfl rfl ?_
  refine g_ic zp0 (zf0_23 (k := 30) rfl) rfl ?_
  refine g_ar (r := w32 (l3 + 1)) zp0 (zf0_23 (k := 31) rfl) rfl rfl ?_
  obtain ⟨c1, h⟩ := h
  refine g_ald (v := zI (zH0 w.2 0 (w32 (l3 + 1)))) zp0 (zf0_23 (k := 32) rfl) rfl rfl rfl c1 rfl ?_
  refine g_callI (as := [zR 32, zI (zH0 w.2 0 (w32 (l3 + 1)))]) (rest := []) zp0 (zf0_23 (k := 33) rfl) rfl (Nat.succ_pos _) rfl rfl (Nat.le_of_ble_eq_true rfl) (Nat.le_of_ble_eq_true rfl) rfl rfl h (fun x3 H2 h => ?_)
  refine g_al zp0 (zf0_23 (k := 36) rfl) rfl rfl (by decide) ?_
  refine g_al zp0 (zf0_23 (k := 37) rfl) rfl rfl (by decide) ?_
  refine g_il zp0 (zf0_23 (k := 38) rfl) rfl rfl ?_
  refine g_ic zp0 (zf0_23 (k := 39) rfl) rfl ?_
  refine g_ar (r := w32 (l3 + 1)) zp0 (zf0_23 (k := 40) rfl) rfl rfl ?_
  refine g_ald (v := zI (zH0 w.2 0 (w32 (l3 + 1)))) zp0 (zf0_23 (k := 41) rfl) rfl rfl rfl c1 rfl ?_
  refine g_callI (as := [zR 81, zI (zH0 w.2 0 (w32 (l3 + 1)))]) (rest := [zI x3]) zp0 (zf0_23 (k := 42) rfl) rfl (Nat.succ_pos _) rfl rfl (Nat.le_of_ble_eq_true rfl) (Nat.le_of_ble_eq_true rfl) rfl rfl h (fun x5 H4 h => ?_)
  refine g_icmp zp0 (zf0_23 (k := 45) rfl) rfl zc0 (fun c6 => ?_) (fun c6 => ?_)
  · replace h := h.1 c6
    exact g_weak (ls' := [zR 0, zR 32, zR 81, zI l3]) ⟨Or.inr rfl, Or.inr rfl, Or.inr rfl, Or.inr rfl, trivial⟩ h
  · replace h := h.2 c6
    refine g_ic zp0 (zf0_23 (k := 48) rfl) rfl ?_
    exact g_ret zp0 (zf0_23 (k := 49) rfl) (zret_b (by decide)) ⟨_, rfl, h⟩
set_option maxRecDepth 40000 in
theorem x0_2120 {w : zWt} {d : Nat} {H : zHt} {K : Int → zHt → Prop} {l3 : Int}
    (h : (0 ≤ (w32 (l3 + 1)) ∧ (w32 (l3 + 1)) < (w.1 : Int)) ∧ (0 ≤ (w32 (l3 + 2)) ∧ (w32 (l3 + 2)) < (w.1 : Int)) ∧ zclI w d 160 [zR 32, zI (zH0 w.2 0 (w32 (l3 + 1))), zI (zH0 w.2 0 (w32 (l3 + 2)))] H (fun x4 H3 => zclI w d 266 [zR 81, zI (zH0 w.2 0 (w32 (l3 + 1))), zI (zH0 w.2 0 (w32 (l3 + 2)))] H3 (fun x6 H5 => (x4 = x6 → zgo w (d + 1) 0 2245 [zR 0, zR 32, zR 81, zI l3] [] H5 (zQI K)) ∧ (¬ x4 = x6 → K 0 H5)))) :
    zgo w (d + 1) 0 2120 [zR 0, zR 32, zR 81, zI l3] [] H (zQI K) := by
  refine g_al zp0 (zf0_23 (k := 50) rfl) rfl rfl (by decide) ?_
  refine g_al zp0 (zf0_23 (k := 51) rfl) rfl rfl (by decide) ?_
  refine g_il zp0 (zf0_23 (k := 52) rfl) rfl rfl ?_
  refine g_ic zp0 (zf0_23 (k := 53) rfl) rfl ?_
  refine g_ar (r := w32 (l3 + 1)) zp0 (zf0_23 (k := 54) rfl) rfl rfl ?_
  obtain ⟨c1, h⟩ := h
  refine g_ald (v := zI (zH0 w.2 0 (w32 (l3 + 1)))) zp0 (zf0_23 (k := 55) rfl) rfl rfl rfl c1 rfl ?_
  refine g_al zp0 (zf0_23 (k := 56) rfl) rfl rfl (by decide) ?_
  refine g_il zp0 (zf0_23 (k := 57) rfl) rfl rfl ?_
  refine g_ic zp0 (zf0_23 (k := 58) rfl) rfl ?_
  refine g_ar (r := w32 (l3 + 2)) zp0 (zf0_23 (k := 59) rfl) rfl rfl ?_
  obtain ⟨c2, h⟩ := h
  refine g_ald (v := zI (zH0 w.2 0 (w32 (l3 + 2)))) zp0 (zf0_23 (k := 60) rfl) rfl rfl rfl c2 rfl ?_
  refine g_callI (as := [zR 32, zI (zH0 w.2 0 (w32 (l3 + 1))), zI (zH0 w.2 0 (w32 (l3 + 2)))]) (rest := []) zp0 (zf0_23 (k := 61) rfl) rfl (Nat.succ_pos _) rfl rfl (Nat.le_of_ble_eq_true rfl) (Nat.le_of_ble_eq_true rfl) rfl rfl h (fun x4 H3 h => ?_)
  refine g_al zp0 (zf0_23 (k := 64) rfl) rfl rfl (by decide) ?_
  refine g_al zp0 (zf0_23 (k := 65) rfl) rfl rfl (by decide) ?_
  refine g_il zp0 (zf0_23 (k := 66) rfl) rfl rfl ?_
  refine g_ic zp0 (zf0_23 (k := 67) rfl) rfl ?_
  refine g_ar (r := w32 (l3 + 1)) zp0 (zf0_23 (k := 68) rfl) rfl rfl ?_
  refine g_ald (v := zI (zH0 w.2 0 (w32 (l3 + 1)))) zp0 (zf0_23 (k := 69) rfl) rfl rfl rfl c1 rfl ?_
  refine g_al zp0 (zf0_23 (k := 70) rfl) rfl rfl (by decide) ?_
  refine g_il zp0 (zf0_23 (k := 71) rfl) rfl rfl ?_
  refine g_ic zp0 (zf0_23 (k := 72) rfl) rfl ?_
  refine g_ar (r := w32 (l3 + 2)) zp0 (zf0_23 (k := 73) rfl) rfl rfl ?_
  refine g_ald (v := zI (zH0 w.2 0 (w32 (l3 + 2)))) zp0 (zf0_23 (k := 74) rfl) rfl rfl rfl c2 rfl ?_
  refine g_callI (as := [zR 81, zI (zH0 w.2 0 (w32 (l3 + 1))), zI (zH0 w.2 0 (w32 (l3 + 2)))]) (rest := [zI x4]) zp0 (zf0_23 (k := 75) rfl) rfl (Nat.succ_pos _) rfl rfl (Nat.le_of_ble_eq_true rfl) (Nat.le_of_ble_eq_true rfl) rfl rfl h (fun x6 H5 h => ?_)
  refine g_icmp zp0 (zf0_23 (k := 78) rfl) rfl zc0 (fun c7 => ?_) (fun c7 => ?_)
  · replace h := h.1 c7
    exact g_weak (ls' := [zR 0, zR 32, zR 81, zI l3]) ⟨Or.inr rfl, Or.inr rfl, Or.inr rfl, Or.inr rfl, trivial⟩ h
  · replace h := h.2 c7
    refine g_ic zp0 (zf0_23 (k := 81) rfl) rfl ?_
    exact g_ret zp0 (zf0_23 (k := 82) rfl) (zret_b (by decide)) ⟨_, rfl, h⟩
set_option maxRecDepth 40000 in
theorem x0_2153 {w : zWt} {d : Nat} {H : zHt} {K : Int → zHt → Prop} {l3 : Int}
    (h : (0 ≤ (w32 (l3 + 1)) ∧ (w32 (l3 + 1)) < (w.1 : Int)) ∧ (0 ≤ (w32 (l3 + 2)) ∧ (w32 (l3 + 2)) < (w.1 : Int)) ∧ zclI w d 161 [zR 32, zI (zH0 w.2 0 (w32 (l3 + 1))), zI (zH0 w.2 0 (w32 (l3 + 2)))] H (fun x4 H3 => zclI w d 267 [zR 81, zI (zH0 w.2 0 (w32 (l3 + 1))), zI (zH0 w.2 0 (w32 (l3 + 2)))] H3 (fun x6 H5 => (x4 = x6 → zgo w (d + 1) 0 2245 [zR 0, zR 32, zR 81, zI l3] [] H5 (zQI K)) ∧ (¬ x4 = x6 → K 0 H5)))) :
    zgo w (d + 1) 0 2153 [zR 0, zR 32, zR 81, zI l3] [] H (zQI K) := by
  refine g_al zp0 (zf0_23 (k := 83) rfl) rfl rfl (by decide) ?_
  refine g_al zp0 (zf0_23 (k := 84) rfl) rfl rfl (by decide) ?_
  refine g_il zp0 (zf0_23 (k := 85) rfl) rfl rfl ?_
  refine g_ic zp0 (zf0_23 (k := 86) rfl) rfl ?_
  refine g_ar (r := w32 (l3 + 1)) zp0 (zf0_23 (k := 87) rfl) rfl rfl ?_
  obtain ⟨c1, h⟩ := h
  refine g_ald (v := zI (zH0 w.2 0 (w32 (l3 + 1)))) zp0 (zf0_23 (k := 88) rfl) rfl rfl rfl c1 rfl ?_
  refine g_al zp0 (zf0_23 (k := 89) rfl) rfl rfl (by decide) ?_
  refine g_il zp0 (zf0_24 (k := 0) rfl) rfl rfl ?_
  refine g_ic zp0 (zf0_24 (k := 1) rfl) rfl ?_
  refine g_ar (r := w32 (l3 + 2)) zp0 (zf0_24 (k := 2) rfl) rfl rfl ?_
  obtain ⟨c2, h⟩ := h
  refine g_ald (v := zI (zH0 w.2 0 (w32 (l3 + 2)))) zp0 (zf0_24 (k := 3) rfl) rfl rfl rfl c2 rfl ?_
  refine g_callI (as := [zR 32, zI (zH0 w.2 0 (w32 (l3 + 1))), zI (zH0 w.2 0 (w32 (l3 + 2)))]) (rest := []) zp0 (zf0_24 (k := 4) rfl) rfl (Nat.succ_pos _) rfl rfl (Nat.le_of_ble_eq_true rfl) (Nat.le_of_ble_eq_true rfl) rfl rfl h (fun x4 H3 h => ?_)
  refine g_al zp0 (zf0_24 (k := 7) rfl) rfl rfl (by decide) ?_
  refine g_al zp0 (zf0_24 (k := 8) rfl) rfl rfl (by decide) ?_
  refine g_il zp0 (zf0_24 (k := 9) rfl) rfl rfl ?_
  refine g_ic zp0 (zf0_24 (k := 10) rfl) rfl ?_
  refine g_ar (r := w32 (l3 + 1)) zp0 (zf0_24 (k := 11) rfl) rfl rfl ?_
  refine g_ald (v := zI (zH0 w.2 0 (w32 (l3 + 1)))) zp0 (zf0_24 (k := 12) rfl) rfl rfl rfl c1 rfl ?_
  refine g_al zp0 (zf0_24 (k := 13) rfl) rfl rfl (by decide) ?_
  refine g_il zp0 (zf0_24 (k := 14) rfl) rfl rfl ?_
  refine g_ic zp0 (zf0_24 (k := 15) rfl) rfl ?_
  refine g_ar (r := w32 (l3 + 2)) zp0 (zf0_24 (k := 16) rfl) rfl rfl ?_
  refine g_ald (v := zI (zH0 w.2 0 (w32 (l3 + 2)))) zp0 (zf0_24 (k := 17) rfl) rfl rfl rfl c2 rfl ?_
  refine g_callI (as := [zR 81, zI (zH0 w.2 0 (w32 (l3 + 1))), zI (zH0 w.2 0 (w32 (l3 + 2)))]) (rest := [zI x4]) zp0 (zf0_24 (k := 18) rfl) rfl (Nat.succ_pos _) rfl rfl (Nat.le_of_ble_eq_true rfl) (Nat.le_of_ble_eq_true rfl) rfl rfl h (fun x6 H5 h => ?_)
  refine g_icmp zp0 (zf0_24 (k := 21) rfl) rfl zc0 (fun c7 => ?_) (fun c7 => ?_)
  · replace h := h.1 c7
    exact g_weak (ls' := [zR 0, zR 32, zR 81, zI l3]) ⟨Or.inr rfl, Or.inr rfl, Or.inr rfl, Or.inr rfl, trivial⟩ h
  · replace h := h.2 c7
    refine g_ic zp0 (zf0_24 (k := 24) rfl) rfl ?_
    exact g_ret zp0 (zf0_24 (k := 25) rfl) (zret_b (by decide)) ⟨_, rfl, h⟩
set_option maxRecDepth 40000 in
theorem x0_2186 {w : zWt} {d : Nat} {H : zHt} {K : Int → zHt → Prop} {l3 : Int}
    (h : (0 ≤ (w32 (l3 + 1)) ∧ (w32 (l3 + 1)) < (w.1 : Int)) ∧ zclI w d 163 [zR 32, zI (zH0 w.2 0 (w32 (l3 + 1)))] H (fun x3 H2 => zclI w d 270 [zR 81, zI (zH0 w.2 0 (w32 (l3 + 1)))] H2 (fun x5 H4 => (x3 = x5 → zgo w (d + 1) 0 2245 [zR 0, zR 32, zR 81, zI l3] [] H4 (zQI K)) ∧ (¬ x3 = x5 → K 0 H4)))) :
    zgo w (d + 1) 0 2186 [zR 0, zR 32, zR 81, zI l3] [] H (zQI K) := by
  refine g_al zp0 (zf0_24 (k := 26) rfl) rfl rfl (by decide) ?_
  refine g_al zp0 (zf0_24 (k := 27) rfl) rfl rfl (by decide) ?_
  refine g_il zp0 (zf0_24 (k := 28) rfl) rfl rfl ?_
  refine g_ic zp0 (zf0_24 (k := 29) rfl) rfl ?_
  refine g_ar (r := w32 (l3 + 1)) zp0 (zf0_24 (k := 30) rfl) rfl rfl ?_
  obtain ⟨c1, h⟩ := h
  refine g_ald (v := zI (zH0 w.2 0 (w32 (l3 + 1)))) zp0 (zf0_24 (k := 31) rfl) rfl rfl rfl c1 rfl ?_
  refine g_callI (as := [zR 32, zI (zH0 w.2 0 (w32 (l3 + 1)))]) (rest := []) zp0 (zf0_24 (k := 32) rfl) rfl (Nat.succ_pos _) rfl rfl (Nat.le_of_ble_eq_true rfl) (Nat.le_of_ble_eq_true rfl) rfl rfl h (fun x3 H2 h => ?_)
  refine g_al zp0 (zf0_24 (k := 35) rfl) rfl rfl (by decide) ?_
  refine g_al zp0 (zf0_24 (k := 36) rfl) rfl rfl (by decide) ?_
  refine g_il zp0 (zf0_24 (k := 37) rfl) rfl rfl ?_
  refine g_ic zp0 (zf0_24 (k := 38) rfl) rfl ?_
  refine g_ar (r := w32 (l3 + 1)) zp0 (zf0_24 (k := 39) rfl) rfl rfl ?_
  refine g_ald (v := zI (zH0 w.2 0 (w32 (l3 + 1)))) zp0 (zf0_24 (k := 40) rfl) rfl rfl rfl c1 rfl ?_
  refine g_callI (as := [zR 81, zI (zH0 w.2 0 (w32 (l3 + 1)))]) (rest := [zI x3]) zp0 (zf0_24 (k := 41) rfl) rfl (Nat.succ_pos _) rfl rfl (Nat.le_of_ble_eq_true rfl) (Nat.le_of_ble_eq_true rfl) rfl rfl h (fun x5 H4 h => ?_)
  refine g_icmp zp0 (zf0_24 (k := 44) rfl) rfl zc0 (fun c6 => ?_) (fun c6 => ?_)
  · replace h := h.1 c6
    exact g_weak (ls' := [zR 0, zR 32, zR 81, zI l3]) ⟨Or.inr rfl, Or.inr rfl, Or.inr rfl, Or.inr rfl, trivial⟩ h
  · replace h := h.2 c6
    refine g_ic zp0 (zf0_24 (k := 47) rfl) rfl ?_
    exact g_ret zp0 (zf0_24 (k := 48) rfl) (zret_b (by decide)) ⟨_, rfl, h⟩
set_option maxRecDepth 40000 in
theorem x0_2209 {w : zWt} {d : Nat} {H : zHt} {K : Int → zHt → Prop} {l3 : Int}
    (h : (0 ≤ (w32 (l3 + 1)) ∧ (w32 (l3 + 1)) < (w.1 : Int)) ∧ zclI w d 168 [zR 32, zI (zH0 w.2 0 (w32 (l3 + 1)))] H (fun x3 H2 => zclI w d 274 [zR 81, zI (zH0 w.2 0 (w32 (l3 + 1)))] H2 (fun x5 H4 => (x3 = x5 → zgo w (d + 1) 0 2245 [zR 0, zR 32, zR 81, zI l3] [] H4 (zQI K)) ∧ (¬ x3 = x5 → K 0 H4)))) :
    zgo w (d + 1) 0 2209 [zR 0, zR 32, zR 81, zI l3] [] H (zQI K) := by
  refine g_al zp0 (zf0_24 (k := 49) rfl) rfl rfl (by decide) ?_
  refine g_al zp0 (zf0_24 (k := 50) rfl) rfl rfl (by decide) ?_
  refine g_il zp0 (zf0_24 (k := 51) rfl) rfl rfl ?_
  refine g_ic zp0 (zf0_24 (k := 52) rfl) rfl ?_
  refine g_ar (r := w32 (l3 + 1)) zp0 (zf0_24 (k := 53) rfl) rfl rfl ?_
  obtain ⟨c1, h⟩ := h
  refine g_ald (v := zI (zH0 w.2 0 (w32 (l3 + 1)))) zp0 (zf0_24 (k := 54) rfl) rfl rfl rfl c1 rfl ?_
  refine g_callI (as := [zR 32, zI (zH0 w.2 0 (w32 (l3 + 1)))]) (rest := []) zp0 (zf0_24 (k := 55) rfl) rfl (Nat.succ_pos _) rfl rfl (Nat.le_of_ble_eq_true rfl) (Nat.le_of_ble_eq_true rfl) rfl rfl h (fun x3 H2 h => ?_)
  refine g_al zp0 (zf0_24 (k := 58) rfl) rfl rfl (by decide) ?_
  refine g_al zp0 (zf0_24 (k := 59) rfl) rfl rfl (by decide) ?_
  refine g_il zp0 (zf0_24 (k := 60) rfl) rfl rfl ?_
  refine g_ic zp0 (zf0_24 (k := 61) rfl) rfl ?_
  refine g_ar (r := w32 (l3 + 1)) zp0 (zf0_24 (k := 62) rfl) rfl rfl ?_
  refine g_ald (v := zI (zH0 w.2 0 (w32 (l3 + 1)))) zp0 (zf0_24 (k := 63) rfl) rfl rfl rfl c1 rfl ?_
  refine g_callI (as := [zR 81, zI (zH0 w.2 0 (w32 (l3 + 1)))]) (rest := [zI x3]) zp0 (zf0_24 (k := 64) rfl) rfl (Nat.succ_pos _) rfl rfl (Nat.le_of_ble_eq_true rfl) (Nat.le_of_ble_eq_true rfl) rfl rfl h (fun x5 H4 h => ?_)
  refine g_icmp zp0 (zf0_24 (k := 67) rfl) rfl zc0 (fun c6 => ?_) (fun c6 => ?_)
  · replace h := h.1 c6
    exact g_weak (ls' := [zR 0, zR 32, zR 81, zI l3]) ⟨Or.inr rfl, Or.inr rfl, Or.inr rfl, Or.inr rfl, trivial⟩ h
  · replace h := h.2 c6
    refine g_ic zp0 (zf0_24 (k := 70) rfl) rfl ?_
    exact g_ret zp0 (zf0_24 (k := 71) rfl) (zret_b (by decide)) ⟨_, rfl, h⟩
set_option maxRecDepth 40000 in
theorem x0_2232 {w : zWt} {d : Nat} {H : zHt} {K : Int → zHt → Prop} {l3 : Int}
    (h : zclI w d 169 [zR 32] H (fun x2 H1 => zclI w d 269 [zR 81] H1 (fun x4 H3 => (x2 = x4 → zgo w (d + 1) 0 2245 [zR 0, zR 32, zR 81, zI l3] [] H3 (zQI K)) ∧ (¬ x2 = x4 → K 0 H3)))) :
    zgo w (d + 1) 0 2232 [zR 0, zR 32, zR 81, zI l3] [] H (zQI K) := by
  refine g_al zp0 (zf0_24 (k := 72) rfl) rfl rfl (by decide) ?_
  refine g_callI (as := [zR 32]) (rest := []) zp0 (zf0_24 (k := 73) rfl) rfl (Nat.succ_pos _) rfl rfl (Nat.le_of_ble_eq_true rfl) (Nat.le_of_ble_eq_true rfl) rfl rfl h (fun x2 H1 h => ?_)
  refine g_al zp0 (zf0_24 (k := 76) rfl) rfl rfl (by decide) ?_
  refine g_callI (as := [zR 81]) (rest := [zI x2]) zp0 (zf0_24 (k := 77) rfl) rfl (Nat.succ_pos _) rfl rfl (Nat.le_of_ble_eq_true rfl) (Nat.le_of_ble_eq_true rfl) rfl rfl h (fun x4 H3 h => ?_)
  refine g_icmp zp0 (zf0_24 (k := 80) rfl) rfl zc0 (fun c5 => ?_) (fun c5 => ?_)
  · replace h := h.1 c5
    exact g_weak (ls' := [zR 0, zR 32, zR 81, zI l3]) ⟨Or.inr rfl, Or.inr rfl, Or.inr rfl, Or.inr rfl, trivial⟩ h
  · replace h := h.2 c5
    refine g_ic zp0 (zf0_24 (k := 83) rfl) rfl ?_
    exact g_ret zp0 (zf0_24 (k := 84) rfl) (zret_b (by decide)) ⟨_, rfl, h⟩
set_option maxRecDepth 40000 in
theorem x0_2245 {w : zWt} {d : Nat} {H : zHt} {K : Int → zHt → Prop} {l3 : Int}
    (h : zgo w (d + 1) 0 18 [zR 0, zR 32, zR 81, zI (w32 (l3 + 6))] [] H (zQI K)) :
    zgo w (d + 1) 0 2245 [zR 0, zR 32, zR 81, zI l3] [] H (zQI K) := by
  refine g_inc (ls' := [zR 0, zR 32, zR 81, zI (w32 (l3 + 6))]) zp0 (zf0_24 (k := 85) rfl) rfl rfl rfl ?_
  refine g_goto zp0 (zf0_24 (k := 88) rfl) ?_
  exact g_weak (ls' := [zR 0, zR 32, zR 81, zI (w32 (l3 + 6))]) ⟨Or.inr rfl, Or.inr rfl, Or.inr rfl, Or.inr rfl, trivial⟩ h
