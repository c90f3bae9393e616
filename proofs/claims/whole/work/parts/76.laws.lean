/-! the cases together -/
theorem zall_k (H H' : zHt) (k : zkeep H H') (h : zAllR H) : zAllR H' := zAllR_k (zRk_of k) h
theorem zlaws {w : zWt} (hw : w.1 ≤ 3072) (hMR : zMR) : ∀ p ∈ zcases, zLaw w (zKept zAllR) p := by
  intro p hp
  unfold zcases at hp
  simp only [List.mem_cons, List.not_mem_nil, or_false] at hp
  rcases hp with rfl | rfl | rfl | rfl | rfl | rfl | rfl | rfl | rfl | rfl | rfl | rfl | rfl | rfl | rfl | rfl | rfl | rfl | rfl | rfl | rfl | rfl | rfl | rfl | rfl | rfl | rfl | rfl | rfl | rfl | rfl | rfl | rfl | rfl | rfl | rfl | rfl | rfl | rfl | rfl | rfl | rfl | rfl | rfl | rfl | rfl | rfl | rfl | rfl | rfl | rfl | rfl | rfl | rfl | rfl | rfl | rfl | rfl
  · exact l280 zall_k
  · exact l293 hw
  · exact l356 hw
  · exact l379 hw zall_k (fun H h => h.2.1.1)
  · exact l402 hw zall_k (fun H h => h.1) (fun H h => h.2.2.2.1.1)
  · exact l425 hw hMR zall_k
  · exact l468 hw hMR zall_k (fun H h => h.1)
  · exact l492 hw hMR zall_k (fun H h => h.1)
  · exact l515 hw hMR
  · exact l548 hw hMR
  · exact l581 hw hMR
  · exact l604 hw hMR
  · exact l638 hw hMR zall_k
  · exact l671 hw hMR
  · exact l724 hw hMR
  · exact l767 hw hMR
  · exact l810 hw hMR
  · exact l843 hw hMR
  · exact l876 hw hMR
  · exact l899 hw hMR
  · exact l932 hw hMR
  · exact l992 hw hMR
  · exact l1035 hw hMR
  · exact l1058 hw hMR
  · exact l1091 hw hMR
  · exact l1124 hw hMR
  · exact l1167 hw zall_k (fun H h => h.1)
  · exact l1190 hw hMR
  · exact l1223 hw hMR
  · exact l1246 hw hMR
  · exact l1279 hw hMR
  · exact l1312 hw hMR
  · exact l1345 hw hMR
  · exact l1379 hw hMR
  · exact l1412 hw hMR
  · exact l1445 hw hMR
  · exact l1478 hw hMR
  · exact l1521 hw hMR
  · exact l1554 hw hMR
  · exact l1597 hw hMR
  · exact l1640 hw hMR
  · exact l1663 hw hMR
  · exact l1706 hw hMR
  · exact l1759 hw hMR
  · exact l1812 hw hMR
  · exact l1855 hw hMR
  · exact l1898 hw hMR
  · exact l1941 hw hMR
  · exact l1974 hw hMR
  · exact l2018 hw
  · exact l2041 hw
  · exact l2074 hw
  · exact l2097 hw hMR
  · exact l2120 hw hMR
  · exact l2153 hw
  · exact l2186 hw hMR
  · exact l2209 hw zall_k (fun H h => h.2.2.2.2.1)
  · exact l2232 hw
