/-! the three bases: the kernel's walk over all p -/
set_option maxRecDepth 100000 in
theorem mr_c1 : mr_all (fun k => mr_p (2 * k + 1009)) 60 = true := by decide +kernel
