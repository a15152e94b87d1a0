set_option maxRecDepth 100000 in
theorem ck_18 : [(268, 480, 177)].all (fun t => okR t.2.1 t.2.2 t.1) = true := by decide +kernel
set_option maxRecDepth 100000 in
theorem ck_19 : [(268, 657, 130)].all (fun t => okR t.2.1 t.2.2 t.1) = true := by decide +kernel
set_option maxRecDepth 100000 in
theorem ck_20 : [(268, 787, 119)].all (fun t => okR t.2.1 t.2.2 t.1) = true := by decide +kernel
set_option maxRecDepth 100000 in
theorem ck_21 : [(268, 906, 108)].all (fun t => okR t.2.1 t.2.2 t.1) = true := by decide +kernel
set_option maxRecDepth 100000 in
theorem ck_22 : [(268, 1014, 93)].all (fun t => okR t.2.1 t.2.2 t.1) = true := by decide +kernel
set_option maxRecDepth 100000 in
theorem ck_23 : [(268, 1107, 80)].all (fun t => okR t.2.1 t.2.2 t.1) = true := by decide +kernel
