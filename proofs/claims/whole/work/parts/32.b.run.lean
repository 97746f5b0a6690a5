/-! how many orders there are: counted through by the kernel -/
theorem run2 : run 2 5040 (pz (fun k => k) 2) = true := by decide +kernel
theorem run3 : run 3 5040 (pz (fun k => k) 3) = true := by decide +kernel
theorem run4 : run 4 5040 (pz (fun k => k) 4) = true := by decide +kernel
theorem run5 : run 5 5040 (pz (fun k => k) 5) = true := by decide +kernel
theorem run6 : run 6 5040 (pz (fun k => k) 6) = true := by decide +kernel
theorem run7 : run 7 5040 (pz (fun k => k) 7) = true := by decide +kernel
