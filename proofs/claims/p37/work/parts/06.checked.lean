theorem ck_R {y lo n : Nat} (h : okR lo n y = true) {pc : Nat} (h1 : lo ≤ pc) (h2 : pc < lo + n) : okAt y pc = true := List.all_eq_true.mp h pc (List.mem_range'_1.mpr ⟨h1, h2⟩)
def ckL : List (List (Nat × Nat × Nat)) := [
  [(0, 0, 54), (1, 0, 34), (2, 0, 33), (3, 0, 13), (4, 0, 134), (5, 0, 30), (6, 0, 42), (7, 0, 11), (8, 0, 15), (9, 0, 29), (10, 0, 21), (11, 0, 24), (12, 0, 16), (13, 0, 40), (14, 0, 77), (15, 0, 8), (16, 0, 11), (17, 0, 141), (18, 0, 102), (19, 0, 52), (20, 0, 25), (21, 0, 19), (22, 0, 15), (23, 0, 59), (24, 0, 22), (25, 0, 26), (26, 0, 30), (27, 0, 44), (28, 0, 35), (29, 0, 92), (30, 0, 104), (31, 0, 18), (32, 0, 74), (33, 0, 33), (34, 0, 59), (35, 0, 7), (36, 0, 37), (37, 0, 37), (38, 0, 17), (39, 0, 11), (40, 0, 11), (41, 0, 33), (42, 0, 22), (43, 0, 33), (44, 0, 18), (45, 0, 29), (46, 0, 106), (47, 0, 24), (48, 0, 24), (49, 0, 104), (50, 0, 191), (51, 0, 30), (52, 0, 15), (53, 0, 9), (54, 0, 75), (55, 0, 26), (56, 0, 86), (57, 0, 31), (58, 0, 132), (59, 0, 31), (60, 0, 15)],
  [(61, 0, 105), (62, 0, 72), (63, 0, 49), (64, 0, 62), (65, 0, 6), (66, 0, 40), (67, 0, 93), (68, 0, 131), (69, 0, 19), (70, 0, 32), (71, 0, 32), (72, 0, 43), (73, 0, 90), (74, 0, 42), (75, 0, 110), (76, 0, 37), (77, 0, 9), (78, 0, 46), (79, 0, 121), (80, 0, 43), (81, 0, 10), (82, 0, 44), (83, 0, 184), (84, 0, 18), (85, 0, 185), (86, 0, 24), (87, 0, 51), (88, 0, 61), (89, 0, 32), (90, 0, 40), (91, 0, 36), (92, 0, 78), (93, 0, 24), (94, 0, 29), (95, 0, 45), (96, 0, 0), (97, 0, 0), (98, 0, 30), (99, 0, 86), (100, 0, 0), (101, 0, 0), (102, 0, 0), (103, 0, 0), (104, 0, 0), (105, 0, 0), (106, 0, 30), (107, 0, 0), (108, 0, 0), (109, 0, 63), (110, 0, 7), (111, 0, 116)],
  [(112, 0, 86), (113, 0, 17), (114, 0, 34), (115, 0, 98), (116, 0, 24), (117, 0, 69), (118, 0, 31), (119, 0, 96), (120, 0, 38), (121, 0, 128), (122, 0, 31), (123, 0, 64), (124, 0, 76), (125, 0, 133), (126, 0, 8), (127, 0, 53), (128, 0, 44), (129, 0, 66), (130, 0, 42), (131, 0, 67), (132, 0, 67), (133, 0, 85), (134, 0, 20), (135, 0, 49), (136, 0, 55), (137, 0, 111), (138, 0, 29), (139, 0, 33), (140, 0, 0), (141, 0, 0), (142, 0, 0), (143, 0, 0), (144, 0, 0), (145, 0, 0), (146, 0, 0), (147, 0, 0), (148, 0, 0), (149, 0, 0), (150, 0, 0), (151, 0, 0), (152, 0, 0), (153, 0, 0), (154, 0, 0), (155, 0, 0), (156, 0, 0), (157, 0, 0), (158, 0, 0), (159, 0, 0), (160, 0, 0), (161, 0, 24), (162, 0, 126), (163, 0, 38), (164, 0, 38), (165, 0, 30), (166, 0, 38), (167, 0, 7), (168, 0, 8), (169, 0, 8), (170, 0, 9), (171, 0, 5), (172, 0, 39), (173, 0, 45), (174, 0, 55), (175, 0, 39), (176, 0, 59), (177, 0, 19), (178, 0, 19), (179, 0, 22), (180, 0, 5), (181, 0, 5), (182, 0, 7), (183, 0, 98), (184, 0, 44), (185, 0, 47), (186, 0, 121), (187, 0, 33), (188, 0, 25), (189, 0, 33), (190, 0, 38), (191, 0, 27), (192, 0, 21)],
  [(193, 0, 51), (194, 0, 35), (195, 0, 8), (196, 0, 4), (197, 0, 19), (198, 0, 21), (199, 0, 7), (200, 0, 131), (201, 0, 44), (202, 0, 77), (203, 0, 279), (204, 0, 0), (205, 0, 0), (206, 0, 0), (207, 0, 0), (208, 0, 0), (209, 0, 0), (210, 0, 0), (211, 0, 0), (212, 0, 0), (213, 0, 0), (214, 0, 0), (215, 0, 0), (216, 0, 0), (217, 0, 0), (218, 0, 0), (219, 0, 0), (220, 0, 0), (221, 0, 0), (222, 0, 0), (223, 0, 0), (224, 0, 0), (225, 0, 0), (226, 0, 0), (227, 0, 0), (228, 0, 0), (229, 0, 0), (230, 0, 0), (231, 0, 0), (232, 0, 0), (233, 0, 0), (234, 0, 0), (235, 0, 0), (236, 0, 0), (237, 0, 0), (238, 0, 0), (239, 0, 0), (240, 0, 0), (241, 0, 0), (242, 0, 0), (243, 0, 0), (244, 0, 0), (245, 0, 0), (246, 0, 0), (247, 0, 0), (248, 0, 0), (249, 0, 0), (250, 0, 0), (251, 0, 0), (252, 0, 0), (253, 0, 0), (254, 0, 0), (255, 0, 0), (256, 0, 0), (257, 0, 0), (258, 0, 0), (259, 0, 0), (260, 0, 0), (261, 0, 0), (262, 0, 0), (263, 0, 0), (264, 0, 0), (265, 0, 0), (266, 0, 0), (267, 0, 0)],
  [(268, 0, 539)],
  [(268, 539, 221)],
  [(268, 760, 157)]]
theorem ck_all : ∀ g ∈ ckL, g.all (fun t => okR t.2.1 t.2.2 t.1) = true := by
  unfold ckL
  simp only [List.forall_mem_cons, List.not_mem_nil, false_imp_iff, implies_true, and_true]
  exact ⟨ck_0, ck_1, ck_2, ck_3, ck_4, ck_5, ck_6⟩
def ckF : List (Nat × Nat × Nat) := ckL.flatten
theorem ck_F {t : Nat × Nat × Nat} (h : t ∈ ckF) : okR t.2.1 t.2.2 t.1 = true := by
  obtain ⟨g, hg, ht⟩ := List.mem_flatten.mp h
  exact List.all_eq_true.mp (ck_all g hg) t ht
def cvR : List (Nat × Nat × Nat) → Nat → Nat → Bool
  | [], s, L => Nat.ble L s
  | t :: ts, s, L => Nat.beq t.2.1 s && cvR ts (s + t.2.2) L
theorem cvR_ok : ∀ (l : List (Nat × Nat × Nat)) (s L pc : Nat), cvR l s L = true → s ≤ pc → pc < L → ∃ t ∈ l, t.2.1 ≤ pc ∧ pc < t.2.1 + t.2.2
  | [], s, L, pc, h, h1, h2 => absurd (Nat.le_of_ble_eq_true h) (by omega)
  | t :: ts, s, L, pc, h, h1, h2 => by
    unfold cvR at h
    rw [Bool.and_eq_true] at h
    have e := Nat.eq_of_beq_eq_true h.1
    by_cases hc : pc < s + t.2.2
    · exact ⟨t, List.mem_cons_self, by omega, by omega⟩
    · obtain ⟨t', h3, h4⟩ := cvR_ok ts _ L pc h.2 (by omega) h2
      exact ⟨t', List.mem_cons_of_mem _ h3, h4⟩
set_option maxRecDepth 100000 in
theorem ck_cov : (List.range 269).all (fun y => cvR (ckF.filter (fun t => Nat.beq t.1 y)) 0 (lenT y)) = true := by decide +kernel
theorem ok_at {y pc : Nat} {e : PE} (h : prog y pc = some e) : okAt y pc = true := by
  have hp : pc < lenT y := by
    unfold prog at h
    cases hb : Nat.ble (lenT y) pc with
    | true => rw [hb] at h; cases h
    | false => exact Nat.not_le.mp (fun q => by rw [Nat.ble_eq_true_of_le q] at hb; cases hb)
  have hy : y < 269 := by
    refine Nat.not_le.mp fun q => ?_
    unfold lenT at hp
    rw [Nat.ble_eq_true_of_le q] at hp
    exact absurd hp (Nat.not_lt_zero pc)
  obtain ⟨t, ht, h1, h2⟩ := cvR_ok _ _ _ pc (List.all_eq_true.mp ck_cov y (List.mem_range.mpr hy)) (Nat.zero_le _) hp
  obtain ⟨ht1, ht2⟩ := List.mem_filter.mp ht
  have h3 := ck_F ht1
  rw [Nat.eq_of_beq_eq_true ht2] at h3
  exact ck_R h3 h1 h2
theorem ok_dec {y pc : Nat} {e : PE} (h : prog y pc = some e) : ∃ n, decode (mCd y) pc = .ok (e.1, n) ∧ (n = lenOf e.1 ∨ ∃ a b c d, e.1 = .tableswitch a b c d) ∧ resOK y pc e = true := by
  have h1 := ok_at h
  unfold okAt at h1
  rw [h] at h1
  dsimp only at h1
  split at h1
  case h_2 => cases h1
  case h_1 i n hd =>
    simp only [Bool.and_eq_true, decide_eq_true_eq, Bool.or_eq_true] at h1
    obtain ⟨⟨rfl, h2⟩, h3⟩ := h1
    refine ⟨n, hd, ?_, h3⟩
    rcases h2 with h2 | h2
    · exact Or.inl (Nat.eq_of_beq_eq_true h2)
    · refine Or.inr ?_
      split at h2
      · next q => exact ⟨_, _, _, _, q⟩
      · cases h2
