set_option maxRecDepth 100000 in
theorem ck_6 : [(268, 760, 157)].all (fun t => okR t.2.1 t.2.2 t.1) = true := by decide +kernel
