set_option maxRecDepth 100000 in
theorem ck_6 : [(167, 686, 169)].all (fun t => okR t.2.1 t.2.2 t.1) = true := by decide +kernel
set_option maxRecDepth 100000 in
theorem ck_7 : [(167, 855, 151)].all (fun t => okR t.2.1 t.2.2 t.1) = true := by decide +kernel
set_option maxRecDepth 100000 in
theorem ck_8 : [(167, 1006, 154)].all (fun t => okR t.2.1 t.2.2 t.1) = true := by decide +kernel
set_option maxRecDepth 100000 in
theorem ck_9 : [(167, 1160, 133)].all (fun t => okR t.2.1 t.2.2 t.1) = true := by decide +kernel
set_option maxRecDepth 100000 in
theorem ck_10 : [(167, 1293, 109)].all (fun t => okR t.2.1 t.2.2 t.1) = true := by decide +kernel
set_option maxRecDepth 100000 in
theorem ck_11 : [(167, 1402, 23), (168, 0, 51), (169, 0, 16), (170, 0, 129), (171, 0, 11), (172, 0, 112), (173, 0, 62), (174, 0, 30), (175, 0, 13), (176, 0, 38), (177, 0, 25), (178, 0, 30), (179, 0, 64), (180, 0, 57), (181, 0, 66), (182, 0, 216), (183, 0, 86), (184, 0, 38), (185, 0, 91), (186, 0, 28), (187, 0, 69), (188, 0, 36), (189, 0, 10), (190, 0, 55), (191, 0, 44), (192, 0, 8), (193, 0, 16), (194, 0, 85), (195, 0, 147)].all (fun t => okR t.2.1 t.2.2 t.1) = true := by decide +kernel
