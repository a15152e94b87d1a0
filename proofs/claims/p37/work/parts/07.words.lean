theorem mem_p {big ws : List Cond} (ps : List Nat) (h : ws = ps.filterMap (fun i => big[i]?)) : ∀ w ∈ ws, w ∈ big := by
  intro w hw
  rw [h] at hw
  obtain ⟨i, -, hi⟩ := List.mem_filterMap.mp hw
  exact List.mem_of_getElem? hi
theorem zip_p {α : Type} {f : α → Bool → Cond} {big : List Cond} : ∀ (l : List α) (bs : List Bool), l.length = bs.length → (∀ w ∈ List.zipWith f l bs, w ∈ big) → ∀ e ∈ l, ∃ b, f e b ∈ big
  | [], _, _, _, _, he => absurd he List.not_mem_nil
  | _ :: _, [], hl, _, _, _ => absurd hl (by simp)
  | a :: l, b :: bs, hl, h, e, he => by
    rcases List.mem_cons.mp he with rfl | he
    · exact ⟨b, h _ (by simp)⟩
    · exact zip_p l bs (by simpa using hl) (fun w hw => h w (by simp [hw])) e he
theorem zip_p2 {α : Type} {f : α → Bool → Cond} {big : List Cond} {p : α → Bool → Bool} : ∀ (l : List α) (bs : List Bool), l.length = bs.length → (∀ w ∈ List.zipWith f l bs, w ∈ big) → (List.zipWith p l bs).all id = true → ∀ e ∈ l, ∃ b, f e b ∈ big ∧ p e b = true
  | [], _, _, _, _, _, he => absurd he List.not_mem_nil
  | _ :: _, [], hl, _, _, _, _ => absurd hl (by simp)
  | a :: l, b :: bs, hl, h, h2, e, he => by
    rw [List.zipWith_cons_cons, List.all_cons, Bool.and_eq_true] at h2
    rcases List.mem_cons.mp he with rfl | he
    · exact ⟨b, h _ (by simp), h2.1⟩
    · exact zip_p2 l bs (by simpa using hl) (fun w hw => h w (by simp [hw])) h2.2 e he
theorem map_p {α : Type} {f : α → Cond} {big : List Cond} {l : List α} (h : ∀ w ∈ l.map f, w ∈ big) : ∀ e ∈ l, f e ∈ big := fun e he => h _ (List.mem_map_of_mem he)
def clOf (c : Nat) : vw_C := vwCl.getD c ("", TX0, 0)
/-- the class that a field is found in -/
def fCl (c k : Nat) : String := ((clOf c).2.1 k).1
def fNm (c k : Nat) : String := ((clOf c).2.1 k).2.1
def fDs (c k : Nat) : String := ((clOf c).2.1 k).2.2.1
def fWd (e : Nat × Nat × Nat × Nat) (b : Bool) : Cond := match b with
  | true => .fieldLinkNest (cNm e.1) e.2.1 (fCl e.2.2.1 e.2.2.2) (fNm e.2.2.1 e.2.2.2) (fDs e.2.2.1 e.2.2.2) "StockEvents"
  | false => .fieldLink (cNm e.1) e.2.1 (fCl e.2.2.1 e.2.2.2) (fNm e.2.2.1 e.2.2.2) (fDs e.2.2.1 e.2.2.2)
set_option maxRecDepth 100000 in
theorem w_fT2 : ∀ e ∈ fTab, ∃ b, fWd e b ∈ lw_tbl ∧ (!b || !(Nat.beq e.1 e.2.2.1 || Nat.beq e.2.2.1 13)) = true := zip_p2 (p := fun e b => !b || !(Nat.beq e.1 e.2.2.1 || Nat.beq e.2.2.1 13)) fTab [false, false, false, false, false, true, false, false, false, false, false, false, false, true, false, true, false, true, false, true, false, false, false, false, true, true, false, false, false, false, true, false, true, true, false, false, false, false, true, false, true, false, true, false, true, false, true, false, false, true, false, true, false, true, false, false, false, true, false, false, true, false, false, false, false, false, false, true, true, true, false, true, true, false, true, true, true, false, false, false, false, false, false, false, false, true, false, true, true, false, false, false, true, true, true, true, true, false, false, false, false, false, false] (by decide +kernel) (mem_p [64, 65, 66, 67, 68, 69, 70, 71, 103, 107, 108, 109, 110, 111, 112, 113, 114, 115, 116, 117, 145, 146, 147, 148, 149, 150, 183, 184, 185, 186, 187, 188, 189, 190, 208, 209, 210, 227, 228, 229, 230, 231, 232, 233, 234, 235, 236, 237, 238, 239, 240, 241, 242, 243, 244, 245, 246, 247, 248, 249, 250, 282, 283, 284, 285, 286, 378, 379, 380, 381, 382, 383, 384, 385, 386, 387, 388, 389, 519, 520, 761, 762, 763, 764, 765, 766, 767, 768, 769, 879, 880, 881, 882, 883, 884, 885, 886, 1006, 1007, 1008, 1009, 1176, 1177] (by decide +kernel)) (by decide +kernel)
theorem w_fT : ∀ e ∈ fTab, ∃ b, fWd e b ∈ lw_tbl := fun e he => (w_fT2 e he).imp (fun _ h => h.1)
def mWd (e : Nat × Nat × Nat) (b : Bool) : Cond := match b with
  | true => .methodLinkNest (cNm e.1) e.2.1 (mNm e.2.2) "StockEvents"
  | false => .methodLink (cNm e.1) e.2.1 (mNm e.2.2)
set_option maxRecDepth 100000 in
theorem w_mT : ∀ e ∈ mTab, ∃ b, mWd e b ∈ lw_tbl := zip_p mTab [false, false, false, false, false, false, false, false, false, false, false, false, false, false, false, false, false, false, false, false, false, false, false, false, false, false, false, false, false, false, false, false, false, false, false, false, false, false, false, false, false, false, false, false, false, false, false, false, false, false, false, false, false, false, false, false, false, false, false, false, false, false, false, false, false, false, false, false, false, false, false, false, false, false, false, false, false, false, false, false, false, false, false, false, false, false, false, false, false, false, false, false, false, false, false, false, false, true, false, false, false, false, false, false, false, false, false, false, false, false, false, false, false, false, false, false, false, false, false, false, false, false, false, false, false, false, false, false, false, false, false, false, false, false, false, false, false, false, false, false, false, false, false, false, false, false, false, false, false, false, false, false, false, false, false, false, false, false, false, false, false, false, false, false, false, false, false, false, false, false, false, false, false, false, false, false, false, false, false, false, false, false, false, false, false, false, false, false, false, false, false, false, false, false, false, false, false, false, false, false, false, false, false, false, false, false, false, false, false, false, false, false, false, false, false, false, false, false] (by decide +kernel) (mem_p [51, 59, 91, 99, 135, 141, 163, 166, 173, 177, 204, 222, 226, 298, 302, 305, 308, 312, 317, 321, 325, 326, 330, 334, 364, 368, 374, 399, 403, 407, 411, 415, 419, 422, 426, 430, 434, 438, 442, 443, 446, 449, 452, 455, 493, 501, 511, 515, 527, 531, 535, 539, 543, 547, 551, 555, 559, 563, 567, 571, 575, 576, 580, 584, 588, 592, 596, 600, 604, 608, 612, 613, 617, 621, 625, 630, 634, 638, 639, 640, 644, 645, 646, 647, 652, 653, 655, 656, 660, 664, 665, 669, 673, 674, 678, 682, 686, 690, 691, 695, 699, 702, 705, 706, 710, 711, 715, 716, 717, 721, 725, 727, 728, 729, 730, 734, 737, 743, 751, 757, 785, 789, 794, 795, 799, 803, 807, 811, 815, 816, 820, 824, 825, 826, 830, 834, 838, 844, 848, 849, 853, 857, 861, 862, 866, 875, 900, 904, 908, 912, 916, 917, 921, 922, 923, 924, 928, 932, 936, 940, 944, 948, 952, 955, 956, 957, 961, 965, 970, 973, 986, 991, 994, 1019, 1023, 1030, 1034, 1038, 1041, 1047, 1055, 1066, 1067, 1071, 1075, 1095, 1102, 1105, 1109, 1112, 1115, 1130, 1136, 1139, 1143, 1154, 1156, 1157, 1160, 1163, 1188, 1191, 1195, 1199, 1202, 1206, 1207, 1210, 1214, 1218, 1222, 1223, 1227, 1231, 1235, 1239, 1240, 1244] (by decide +kernel))
set_option maxRecDepth 100000 in
theorem w_uL : Cond.methodLink "java/lang/String" 549 ⟨"java/lang/AbstractStringBuilder", "length", "()I"⟩ ∈ lw_tbl := List.mem_of_getElem? (i := 1148) (by decide +kernel)
set_option maxRecDepth 100000 in
theorem w_nT : ∀ e ∈ nTab, Cond.classLink (cNm e.1) e.2.1 (cNm e.2.2) ∈ lw_tbl := map_p (f := fun (e : Nat × Nat × Nat) => Cond.classLink (cNm e.1) e.2.1 (cNm e.2.2)) (mem_p [49, 57, 89, 95, 97, 133, 139, 162, 164, 170, 202, 218, 220, 372, 499, 755, 793, 873, 976, 989, 1134] (by decide +kernel))
set_option maxRecDepth 100000 in
theorem w_kT : ∀ e ∈ kTab, Cond.constant (cNm e.1) e.2.1 e.2.2 ∈ lw_tbl := map_p (f := fun (e : Nat × Nat × Int32) => Cond.constant (cNm e.1) e.2.1 e.2.2) (mem_p [726, 841, 842, 843, 951, 1042, 1046, 1253] (by decide +kernel))
set_option maxRecDepth 100000 in
theorem w_oiT : ∀ e ∈ oiTab, Cond.methodLink (cNm e.1) e.2 Lib.objectInit ∈ lw_tbl := map_p (f := fun (e : Nat × Nat) => Cond.methodLink (cNm e.1) e.2 Lib.objectInit) (mem_p [54, 62, 94, 102, 138, 144, 169, 207, 377, 518, 760, 878, 997, 1142] (by decide +kernel))
set_option maxRecDepth 100000 in
theorem w_acT : ∀ e ∈ acTab, Cond.methodLink (cNm e.1) e.2 arraycopyName ∈ lw_tbl := map_p (f := fun (e : Nat × Nat) => Cond.methodLink (cNm e.1) e.2 arraycopyName) (mem_p [512, 629, 1099] (by decide +kernel))
abbrev nM : Nat := 268
def mMx (y : Nat) : Nat := (mtdL.getD y (⟨"", "", ""⟩, ByteArray.empty, 0, none)).2.2.1
def mRt (y : Nat) : Option FieldType := (mtdL.getD y (⟨"", "", ""⟩, ByteArray.empty, 0, none)).2.2.2
def cdM (y : Nat) : ByteArray := (mtdL.getD y (⟨"", "", ""⟩, ByteArray.empty, 0, none)).2.1
set_option maxRecDepth 100000 in
theorem w_code0 : (List.range nM).map (fun y => Cond.code (mNm y) (cdM y) (mMx y) (mRt y)) = [53, 61, 93, 101, 137, 143, 168, 176, 180, 206, 224, 960, 307, 964, 301, 304, 311, 315, 320, 324, 329, 333, 336, 367, 371, 376, 402, 406, 410, 414, 418, 421, 425, 429, 433, 437, 441, 445, 448, 451, 454, 457, 495, 503, 517, 530, 534, 538, 542, 546, 550, 554, 558, 562, 566, 570, 574, 579, 583, 587, 591, 595, 599, 603, 607, 611, 616, 620, 624, 628, 633, 637, 643, 650, 659, 663, 668, 672, 677, 681, 685, 689, 694, 698, 701, 704, 709, 1205, 1243, 1217, 1221, 1226, 1230, 1234, 1238, 714, 307, 307, 720, 724, 307, 307, 307, 307, 307, 307, 1213, 307, 307, 733, 736, 740, 746, 753, 759, 788, 792, 798, 802, 806, 810, 814, 819, 823, 829, 833, 837, 840, 847, 852, 856, 860, 865, 869, 877, 903, 907, 911, 915, 920, 307, 307, 307, 307, 307, 307, 307, 307, 307, 307, 307, 307, 307, 307, 307, 307, 307, 307, 307, 307, 307, 927, 931, 935, 939, 943, 947, 993, 1022, 1108, 1133, 1153, 996, 1025, 1111, 1033, 1037, 1059, 1070, 1074, 1147, 1155, 1138, 1141, 1098, 1114, 1117, 1049, 1159, 1162, 1165, 1040, 950, 954, 1197, 967, 972, 988, 1104, 1190, 975, 1201, 1193, 1209, 307, 307, 307, 307, 307, 307, 307, 307, 307, 307, 307, 307, 307, 307, 307, 307, 307, 307, 307, 307, 307, 307, 307, 307, 307, 307, 307, 307, 307, 307, 307, 307, 307, 307, 307, 307, 307, 307, 307, 307, 307, 307, 307, 307, 307, 307, 307, 307, 307, 307, 307, 307, 307, 307, 307, 307, 307, 307, 307, 307, 307, 307, 307, 307].filterMap (fun i => lw_tbl[i]?) := by rfl
theorem w_code {y : Nat} (h : y < nM) : Cond.code (mNm y) (cdM y) (mMx y) (mRt y) ∈ lw_tbl := map_p (f := fun y => Cond.code (mNm y) (cdM y) (mMx y) (mRt y)) (mem_p _ w_code0) y (List.mem_range.mpr h)
def stYs : List Nat := [10, 12, 15, 22, 31, 37, 38, 39, 40, 41, 42, 43, 84, 85, 96, 97, 100, 101, 102, 103, 104, 105, 107, 108, 110, 113, 127, 140, 141, 142, 143, 144, 145, 146, 147, 148, 149, 150, 151, 152, 153, 154, 155, 156, 157, 158, 159, 160, 185, 186, 187, 188, 189, 190, 191, 192, 193, 194, 195, 196, 197, 198, 199, 200, 201, 202, 203, 204, 205, 206, 207, 208, 209, 210, 211, 212, 213, 214, 215, 216, 217, 218, 219, 220, 221, 222, 223, 224, 225, 226, 227, 228, 229, 230, 231, 232, 233, 234, 235, 236, 237, 238, 239, 240, 241, 242, 243, 244, 245, 246, 247, 248, 249, 250, 251, 252, 253, 254, 255, 256, 257, 258, 259, 260, 261, 262, 263, 264, 265, 266, 267]
def inYs : List Nat := [0, 1, 2, 3, 4, 5, 6, 7, 8, 9, 11, 13, 14, 16, 17, 18, 19, 20, 21, 23, 24, 25, 26, 27, 28, 29, 30, 32, 33, 34, 35, 36, 44, 45, 46, 47, 48, 49, 50, 51, 52, 53, 54, 55, 56, 57, 58, 59, 60, 61, 62, 63, 64, 65, 66, 67, 68, 69, 70, 71, 72, 73, 74, 75, 76, 77, 78, 79, 80, 81, 82, 83, 86, 87, 88, 89, 90, 91, 92, 93, 94, 95, 98, 99, 106, 109, 111, 112, 114, 115, 116, 117, 118, 119, 120, 121, 122, 123, 124, 125, 126, 128, 129, 130, 131, 132, 133, 134, 135, 136, 137, 138, 139, 161, 162, 163, 164, 165, 166, 167, 168, 169, 170, 171, 172, 173, 174, 175, 176, 177, 178, 179, 180, 181, 182, 183, 184]
set_option maxRecDepth 100000 in
theorem w_stat : ∀ y ∈ stYs, Cond.static (mNm y) ∈ lw_tbl := map_p (f := fun y => Cond.static (mNm y)) (mem_p [223, 306, 303, 335, 420, 444, 447, 450, 453, 456, 494, 502, 700, 703, 306, 306, 306, 306, 306, 306, 306, 306, 306, 306, 735, 752, 839, 306, 306, 306, 306, 306, 306, 306, 306, 306, 306, 306, 306, 306, 306, 306, 306, 306, 306, 306, 306, 306, 1113, 1116, 1048, 1158, 1161, 1164, 1039, 949, 953, 1196, 966, 971, 987, 1103, 1189, 974, 1200, 1192, 1208, 306, 306, 306, 306, 306, 306, 306, 306, 306, 306, 306, 306, 306, 306, 306, 306, 306, 306, 306, 306, 306, 306, 306, 306, 306, 306, 306, 306, 306, 306, 306, 306, 306, 306, 306, 306, 306, 306, 306, 306, 306, 306, 306, 306, 306, 306, 306, 306, 306, 306, 306, 306, 306, 306, 306, 306, 306, 306, 306, 306, 306, 306, 306, 306] (by decide +kernel))
set_option maxRecDepth 100000 in
theorem w_inst : ∀ y ∈ inYs, Cond.instanceMethod (mNm y) ∈ lw_tbl := map_p (f := fun y => Cond.instanceMethod (mNm y)) (mem_p [52, 60, 92, 100, 136, 142, 167, 174, 178, 205, 958, 962, 299, 309, 313, 318, 323, 327, 331, 366, 370, 375, 400, 405, 408, 413, 417, 423, 428, 432, 435, 439, 516, 528, 532, 537, 540, 545, 548, 552, 556, 560, 565, 568, 572, 578, 581, 586, 590, 593, 598, 601, 605, 609, 614, 618, 622, 626, 631, 635, 642, 648, 657, 661, 666, 670, 676, 679, 683, 687, 693, 696, 707, 1203, 1241, 1216, 1219, 1224, 1228, 1232, 1237, 712, 718, 722, 1211, 731, 738, 744, 758, 786, 790, 796, 800, 804, 809, 812, 817, 822, 827, 831, 835, 845, 850, 854, 858, 863, 867, 876, 901, 905, 910, 913, 918, 925, 929, 933, 937, 941, 945, 992, 1020, 1106, 1131, 1152, 995, 1024, 1110, 1032, 1036, 1056, 1069, 1073, 1144, 1149, 1137, 1140, 1096] (by decide +kernel))
/-- of AbstractStringBuilder: all, private, selected by the tables -/
def asYs : List Nat := [173, 174, 175, 176, 177, 178, 179, 180, 181]
def apYs : List Nat := [175, 176, 178, 179]
def auYs : List Nat := [177, 180]
set_option maxRecDepth 100000 in
theorem w_aSame : ∀ y ∈ asYs, Cond.sameMethod (mNm y).cls "java/lang/AbstractStringBuilder" (mNm y).name (mNm y).desc ∈ lw_tbl := map_p (f := fun y => Cond.sameMethod (mNm y).cls "java/lang/AbstractStringBuilder" (mNm y).name (mNm y).desc) (mem_p [1254, 1261, 1256, 1257, 1057, 1258, 1259, 1145, 1150] (by decide +kernel))
set_option maxRecDepth 100000 in
theorem w_aPriv : ∀ y ∈ apYs, Cond.privateMethod (mNm y) ∈ lw_tbl := map_p (f := fun y => Cond.privateMethod (mNm y)) (mem_p [1031, 1035, 1068, 1072] (by decide +kernel))
set_option maxRecDepth 100000 in
theorem w_aSel : ∀ y ∈ auYs, Cond.selects "java/lang/StringBuilder" (mNm y) (mNm y) ∈ lw_tbl := map_p (f := fun y => Cond.selects "java/lang/StringBuilder" (mNm y) (mNm y)) (mem_p [1058, 1146] (by decide +kernel))
set_option maxRecDepth 100000 in
theorem w_uSel : Cond.selects "java/lang/StringBuilder" ⟨"java/lang/AbstractStringBuilder", "length", "()I"⟩ ⟨"java/lang/StringBuilder", "length", "()I"⟩ ∈ lw_tbl := List.mem_of_getElem? (i := 1151) (by decide +kernel)
set_option maxRecDepth 100000 in
theorem w_sup : Cond.superclass "java/lang/StringBuilder" "java/lang/AbstractStringBuilder" ∈ lw_tbl := List.mem_of_getElem? (i := 1018) (by decide +kernel)
def slYs : List Nat := [7, 8, 11, 13, 14, 16, 17, 18, 19, 20, 21, 23, 24, 26, 27, 28, 29, 30, 32, 33, 34, 35, 36, 45, 46, 47, 48, 49, 50, 51, 52, 53, 54, 55, 56, 57, 58, 59, 60, 61, 62, 63, 64, 65, 66, 67, 68, 69, 70, 71, 72, 73, 74, 75, 76, 77, 78, 79, 80, 81, 82, 83, 86, 87, 88, 89, 90, 91, 92, 93, 94, 95, 98, 99, 106, 109, 111, 112, 115, 116, 117, 118, 119, 120, 121, 122, 123, 124, 125, 126, 128, 129, 130, 131, 132, 133, 135, 136, 137, 138, 139, 161, 162, 163, 164, 165, 166, 168, 169, 170, 184]
set_option maxRecDepth 100000 in
theorem w_sel : ∀ y ∈ slYs, Cond.selects (cNm (mcL.getD y 99)) (mNm y) (mNm y) ∈ lw_tbl := map_p (f := fun y => Cond.selects (cNm (mcL.getD y 99)) (mNm y) (mNm y)) (mem_p [175, 179, 959, 963, 300, 310, 314, 319, 0, 328, 332, 1, 2, 401, 3, 409, 4, 5, 424, 6, 7, 436, 440, 529, 533, 8, 541, 9, 549, 553, 557, 561, 10, 569, 573, 11, 582, 12, 13, 594, 14, 602, 606, 610, 615, 619, 623, 627, 632, 636, 15, 649, 658, 662, 667, 671, 16, 680, 684, 688, 17, 697, 708, 1204, 1242, 21, 1220, 1225, 1229, 1233, 22, 713, 719, 723, 1212, 732, 739, 745, 787, 791, 797, 801, 805, 18, 813, 818, 19, 828, 832, 836, 846, 851, 855, 859, 864, 868, 902, 906, 20, 914, 919, 926, 930, 934, 938, 942, 946, 1021, 1107, 1132, 1097] (by decide +kernel))
set_option maxRecDepth 100000 in
theorem w_init0 : ∀ c ∈ List.range 21, Cond.initialized (cNm c) ∈ lw_tbl := map_p (f := fun c => Cond.initialized (cNm c)) (mem_p [26, 27, 37, 30, 40, 29, 43, 42, 32, 28, 25, 24, 45, 31, 34, 48, 38, 33, 23, 44, 46] (by decide +kernel))
theorem w_init {c : Nat} (h : c < 21) : Cond.initialized (cNm c) ∈ lw_tbl := w_init0 c (List.mem_range.mpr h)
set_option maxRecDepth 100000 in
theorem w_new0 : ∀ c ∈ List.range 14, Cond.instantiable (cNm c) (nfL.getD c 0) ∈ lw_tbl := map_p (f := fun c => Cond.instantiable (cNm c) (nfL.getD c 0)) (mem_p [90, 98, 373, 165, 500, 140, 874, 756, 203, 134, 58, 50, 990, 1135] (by decide +kernel))
theorem w_new {c : Nat} (h : c < 14) : Cond.instantiable (cNm c) (nfL.getD c 0) ∈ lw_tbl := w_new0 c (List.mem_range.mpr h)
set_option maxRecDepth 100000 in
theorem w_lay0 : ∀ w ∈ u_ws RX0 TX0 7, w ∈ lw_tbl := mem_p [118, 120, 122, 124, 126, 128, 130] (by decide +kernel)
set_option maxRecDepth 100000 in
theorem w_lay1 : ∀ w ∈ u_ws RX1 TX1 1, w ∈ lw_tbl := mem_p [104] (by decide +kernel)
set_option maxRecDepth 100000 in
theorem w_lay2 : ∀ w ∈ u_ws RX2 TX2 4, w ∈ lw_tbl := mem_p [390, 392, 394, 396] (by decide +kernel)
set_option maxRecDepth 100000 in
theorem w_lay3 : ∀ w ∈ u_ws RX3 TX3 5, w ∈ lw_tbl := mem_p [191, 193, 195, 197, 199] (by decide +kernel)
set_option maxRecDepth 100000 in
theorem w_lay4 : ∀ w ∈ u_ws RX4 TX4 2, w ∈ lw_tbl := mem_p [521, 523] (by decide +kernel)
set_option maxRecDepth 100000 in
theorem w_lay5 : ∀ w ∈ u_ws RX5 TX5 5, w ∈ lw_tbl := mem_p [151, 153, 155, 157, 159] (by decide +kernel)
set_option maxRecDepth 100000 in
theorem w_lay6 : ∀ w ∈ u_ws RX6 TX6 6, w ∈ lw_tbl := mem_p [887, 889, 891, 893, 895, 897] (by decide +kernel)
set_option maxRecDepth 100000 in
theorem w_lay7 : ∀ w ∈ u_ws RX7 TX7 7, w ∈ lw_tbl := mem_p [770, 772, 774, 776, 778, 780, 782] (by decide +kernel)
set_option maxRecDepth 100000 in
theorem w_lay8 : ∀ w ∈ u_ws RX8 TX8 3, w ∈ lw_tbl := mem_p [211, 213, 215] (by decide +kernel)
set_option maxRecDepth 100000 in
theorem w_lay9 : ∀ w ∈ u_ws RX9 TX9 15, w ∈ lw_tbl := mem_p [251, 253, 255, 257, 259, 261, 263, 265, 267, 269, 271, 273, 275, 277, 279] (by decide +kernel)
set_option maxRecDepth 100000 in
theorem w_lay10 : ∀ w ∈ u_ws RX10 TX10 7, w ∈ lw_tbl := mem_p [72, 74, 76, 78, 80, 82, 84] (by decide +kernel)
set_option maxRecDepth 100000 in
theorem w_lay11 : ∀ w ∈ u_ws RX11 TX11 5, w ∈ lw_tbl := mem_p [287, 289, 291, 293, 295] (by decide +kernel)
set_option maxRecDepth 100000 in
theorem w_lay12 : ∀ w ∈ u_ws RJ4 TJ4 4, w ∈ lw_tbl := mem_p [1010, 1012, 1014, 1016] (by decide +kernel)
set_option maxRecDepth 100000 in
theorem w_lay13 : ∀ w ∈ u_ws RJ0 TJ0 4, w ∈ lw_tbl := mem_p [1178, 1180, 1182, 1184] (by decide +kernel)
set_option maxRecDepth 100000 in
theorem w_oiI : Cond.instanceMethod Lib.objectInit ∈ lw_tbl := List.mem_of_getElem? (i := 55) (by decide +kernel)
set_option maxRecDepth 100000 in
theorem w_oiC : Cond.code Lib.objectInit ⟨#[0xb1]⟩ 1 none ∈ lw_tbl := List.mem_of_getElem? (i := 56) (by decide +kernel)
set_option maxRecDepth 100000 in
theorem w_acN : Cond.native arraycopyName ∈ lw_tbl := List.mem_of_getElem? (i := 514) (by decide +kernel)
set_option maxRecDepth 100000 in
theorem w_acS : Cond.static arraycopyName ∈ lw_tbl := List.mem_of_getElem? (i := 513) (by decide +kernel)
set_option maxRecDepth 100000 in
theorem w_acI : Cond.initialized "java/lang/System" ∈ lw_tbl := List.mem_of_getElem? (i := 41) (by decide +kernel)
set_option maxRecDepth 100000 in
theorem w_aci : Cond.arrayClass .int ∈ lw_tbl := List.mem_of_getElem? (i := 87) (by decide +kernel)
set_option maxRecDepth 100000 in
theorem w_acb : Cond.arrayClass .byte ∈ lw_tbl := List.mem_of_getElem? (i := 88) (by decide +kernel)
set_option maxRecDepth 100000 in
theorem w_ao2 : Cond.arrayOver (.object (cNm 2)) ∈ lw_tbl := List.mem_of_getElem? (i := 96) (by decide +kernel)
set_option maxRecDepth 100000 in
theorem w_ao4 : Cond.arrayOver (.object (cNm 4)) ∈ lw_tbl := List.mem_of_getElem? (i := 171) (by decide +kernel)
set_option maxRecDepth 100000 in
theorem w_ao6 : Cond.arrayOver (.object (cNm 6)) ∈ lw_tbl := List.mem_of_getElem? (i := 221) (by decide +kernel)
set_option maxRecDepth 100000 in
theorem w_ao7 : Cond.arrayOver (.object (cNm 7)) ∈ lw_tbl := List.mem_of_getElem? (i := 219) (by decide +kernel)
set_option maxRecDepth 100000 in
theorem w_ao13 : Cond.arrayOver (.object (cNm 13)) ∈ lw_tbl := List.mem_of_getElem? (i := 977) (by decide +kernel)
set_option maxRecDepth 100000 in
theorem w_aoI : Cond.arrayOver (.array .int) ∈ lw_tbl := List.mem_of_getElem? (i := 969) (by decide +kernel)
set_option maxRecDepth 100000 in
theorem w_clM : Cond.methodLink "java/util/Arrays" 316 ⟨"[I", "clone", "()Ljava/lang/Object;"⟩ ∈ lw_tbl := List.mem_of_getElem? (i := 504) (by decide +kernel)
set_option maxRecDepth 100000 in
theorem w_clSm : Cond.sameMethod "[I" "java/lang/Object" "clone" "()Ljava/lang/Object;" ∈ lw_tbl := List.mem_of_getElem? (i := 505) (by decide +kernel)
set_option maxRecDepth 100000 in
theorem w_clS : Cond.selects "[I" ⟨"[I", "clone", "()Ljava/lang/Object;"⟩ ⟨"java/lang/Object", "clone", "()Ljava/lang/Object;"⟩ ∈ lw_tbl := List.mem_of_getElem? (i := 508) (by decide +kernel)
set_option maxRecDepth 100000 in
theorem w_clC : Cond.castable "[I" "java/lang/Cloneable" ∈ lw_tbl := List.mem_of_getElem? (i := 509) (by decide +kernel)
set_option maxRecDepth 100000 in
theorem w_ccL : Cond.classLink "java/util/Arrays" 317 "[I" ∈ lw_tbl := List.mem_of_getElem? (i := 510) (by decide +kernel)
set_option maxRecDepth 100000 in
theorem w_clMB : Cond.methodLink "java/util/Arrays" 310 ⟨"[B", "clone", "()Ljava/lang/Object;"⟩ ∈ lw_tbl := List.mem_of_getElem? (i := 1050) (by decide +kernel)
set_option maxRecDepth 100000 in
theorem w_clSmB : Cond.sameMethod "[B" "java/lang/Object" "clone" "()Ljava/lang/Object;" ∈ lw_tbl := List.mem_of_getElem? (i := 1051) (by decide +kernel)
set_option maxRecDepth 100000 in
theorem w_clSB : Cond.selects "[B" ⟨"[B", "clone", "()Ljava/lang/Object;"⟩ ⟨"java/lang/Object", "clone", "()Ljava/lang/Object;"⟩ ∈ lw_tbl := List.mem_of_getElem? (i := 1052) (by decide +kernel)
set_option maxRecDepth 100000 in
theorem w_clCB : Cond.castable "[B" "java/lang/Cloneable" ∈ lw_tbl := List.mem_of_getElem? (i := 1053) (by decide +kernel)
set_option maxRecDepth 100000 in
theorem w_ccLB : Cond.classLink "java/util/Arrays" 311 "[B" ∈ lw_tbl := List.mem_of_getElem? (i := 1054) (by decide +kernel)
set_option maxRecDepth 100000 in
theorem w_clN : Cond.native ⟨"java/lang/Object", "clone", "()Ljava/lang/Object;"⟩ ∈ lw_tbl := List.mem_of_getElem? (i := 506) (by decide +kernel)
set_option maxRecDepth 100000 in
theorem w_clI : Cond.instanceMethod ⟨"java/lang/Object", "clone", "()Ljava/lang/Object;"⟩ ∈ lw_tbl := List.mem_of_getElem? (i := 507) (by decide +kernel)
set_option maxRecDepth 100000 in
theorem w_mnL : Cond.classLink "StockEventsLaw" 37 "[[I" ∈ lw_tbl := List.mem_of_getElem? (i := 968) (by decide +kernel)
def gsF (k : Nat) : String × String × String := match k with
  | 0 => ("java/lang/String", "COMPACT_STRINGS", "Z")
  | 1 => ("java/lang/Integer", "DigitOnes", "[B")
  | _ => ("java/lang/Integer", "DigitTens", "[B")
set_option maxRecDepth 100000 in
theorem w_gsT : ∀ e ∈ gsTab, Cond.fieldLink (cNm e.1) e.2.1 (gsF e.2.2).1 (gsF e.2.2).2.1 (gsF e.2.2).2.2 ∈ lw_tbl := map_p (f := fun (e : Nat × Nat × Nat) => Cond.fieldLink (cNm e.1) e.2.1 (gsF e.2.2).1 (gsF e.2.2).2.1 (gsF e.2.2).2.2) (mem_p [181, 998, 1118, 1120] (by decide +kernel))
set_option maxRecDepth 100000 in
theorem w_ciL : Cond.methodLink "java/lang/StringLatin1" 9 ⟨"java/lang/String", "checkIndex", "(II)V"⟩ ∈ lw_tbl := List.mem_of_getElem? (i := 337) (by decide +kernel)
def rkOf (r : Option FieldType) : Nat := match r with
  | none => 0
  | some .int => 1
  | some .boolean => 2
  | some .char => 3
  | some .byte => 4
  | some .long => 5
  | some (.object _) => 6
  | some (.array _) => 6
  | _ => 9
def mFacts (y : Nat) : Bool := decide (mMx y = mxL.getD y 0) && decide (rkOf (mRt y) = rkL.getD y 9) && decide ((mNm y).cls = cNm (mcL.getD y 99)) && plainFor (mNm y) && decide ((mNm y).cls ≠ "java/lang/invoke/MethodHandle") && decide ((mNm y).cls ≠ "java/lang/invoke/VarHandle")
  && decide ((parseMethodDescriptor (mNm y).desc).map (fun d => d.parameters.length) = some (bif stL.getD y true then naL.getD y 0 else naL.getD y 0 - 1)) && (bif stL.getD y true then stYs.contains y else inYs.contains y && (slYs.contains y || (isIni y || (asYs.contains y || Nat.beq y m_SB_length)))) && Nat.blt (mcL.getD y 99) 21 && Nat.ble (naL.getD y 0) (mxL.getD y 0) && Nat.ble (mxL.getD y 0) 40 && (!isIni y || decide (mRt y = none))
set_option maxRecDepth 100000 in
theorem m_facts0 : (List.range nM).all mFacts = true := by decide +kernel
theorem m_facts {y : Nat} (h : y < nM) : mFacts y = true := List.all_eq_true.mp m_facts0 y (List.mem_range.mpr h)
