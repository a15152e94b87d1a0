/-! What the Statement gives of the start, as rows. -/
def nar : List Cond := flatC (Jvm.Cond.and given_1 narrow_1)
def sTb (j : Nat) : Nat × Nat × Nat := sTab.getD j (0, 0, 0)
def tmS (j : Nat) : Term := .string (cNm (sTb j).1) (sTb j).2.1
def strW (j : Nat) : List Cond := .exactly (tmS j) "java/lang/String" :: .eq (.field (tmS j) "java/lang/String" "coder" "B") (.int 0) :: .arrayOf (.field (tmS j) "java/lang/String" "value" "[B") .byte :: .eq (.length (.field (tmS j) "java/lang/String" "value" "[B")) (.int (Int32.ofNat (sL j).length))
  :: (List.range (sL j).length).map (fun k => .eq (.elem (.field (tmS j) "java/lang/String" "value" "[B") (.int (Int32.ofNat k))) (.int ((sL j).getD k 0)))
def strX : List (List Nat) := [[267, 268, 269, 270, 271, 272, 273],
  [274, 275, 276, 277, 278, 279, 280],
  [282, 283, 284, 285, 286, 287, 288, 289, 290],
  [291, 292, 293, 294, 295, 296, 297, 298, 299, 300, 301, 302, 303, 304, 305, 306, 307, 308, 309, 310, 311, 312, 313, 314, 315, 316, 317, 318, 319, 320, 321, 322, 323, 324, 325, 326, 327, 328, 329, 330, 331, 332, 333, 334],
  [335, 336, 337, 338, 339, 340, 341],
  [342, 343, 344, 345, 346, 347],
  [348, 349, 350, 351, 352, 353, 354],
  [355, 356, 357, 358, 359, 360],
  [361, 362, 363, 364, 365, 366, 367, 368, 369, 370, 371, 372, 373, 374, 375, 376, 377, 378, 379, 380, 381, 382, 383, 384, 385, 386, 387, 388, 389, 390, 391, 392, 393, 394, 395, 396, 397, 398, 399, 400, 401, 402, 403, 404, 405, 406, 407, 408, 409, 410, 411, 412, 413, 414],
  [415, 416, 417, 418, 419, 420, 421],
  [631, 632, 633, 634, 635, 636, 637, 638],
  [424, 425, 426, 427, 428, 429, 430, 431, 432, 433, 434, 435, 436, 437, 438, 439, 440, 441, 442, 443, 444, 445, 446, 447, 448, 449, 450, 451, 452, 453, 454, 455, 456, 457, 458],
  [459, 460, 461, 462, 463, 464],
  [465, 466, 467, 468, 469, 470, 471, 472, 473, 474, 475, 476, 477, 478, 479, 480, 481, 482, 483, 484, 485, 486, 487, 488, 489, 490, 491, 492, 493, 494, 495, 496, 497, 498, 499, 500, 501, 502, 503, 504, 505, 506, 507, 508, 509, 510, 511, 512, 513, 514, 515, 516, 517, 518, 519, 520, 521, 522],
  [523, 524, 525, 526, 527, 528, 529, 530, 531, 532, 533, 534, 535, 536, 537, 538, 539, 540, 541, 542, 543, 544, 545, 546, 547, 548, 549, 550, 551, 552, 553, 554, 555, 556, 557, 558, 559, 560, 561, 562, 563, 564, 565, 566, 567, 568, 569, 570, 571, 572, 573, 574, 575, 576],
  [578, 579, 580, 581, 582, 583],
  [584, 585, 586, 587, 588, 589, 590, 591, 592, 593, 594, 595, 596, 597, 598, 599, 600, 601, 602, 603],
  [604, 605, 606, 607, 608, 609],
  [610, 611, 612, 613, 614, 615],
  [616, 617, 618, 619, 620, 621, 622, 623, 624],
  [625, 626, 627, 628, 629, 630],
  [639, 640, 641, 642, 643, 644, 645],
  [646, 647, 648, 649, 650, 651, 652, 653],
  [654, 655, 656, 657, 658, 659, 660, 661],
  [662, 663, 664, 665, 666, 667, 668, 669],
  [670, 671, 672, 673, 674, 675, 676, 677, 678],
  [679, 680, 681, 682, 683, 684, 685, 686],
  [687, 688, 689, 690, 691, 692, 693, 694, 695],
  [696, 697, 698, 699, 700],
  [701, 702, 703, 704, 705, 706, 707, 708],
  [709, 710, 711, 712, 713, 714, 715, 716, 717, 718],
  [719, 720, 721, 722, 723, 724, 725, 726, 727, 728],
  [729, 730, 731, 732, 733, 734, 735, 736, 737, 738, 739, 740, 741, 742, 743, 744, 745, 746, 747, 748, 749, 750, 751, 752, 753, 754, 755, 756],
  [757, 758, 759, 760, 761, 762, 763, 764, 765, 766, 767, 768, 769, 770, 771, 772, 773, 774, 775, 776, 777, 778, 779, 780],
  [781, 782, 783, 784, 785, 786, 787, 788, 789, 790, 791, 792, 793, 794, 795, 796, 797, 798, 799, 800, 801, 802, 803, 804, 805, 806, 807, 808, 809, 810],
  [811, 812, 813, 814, 815, 816, 817, 818, 819, 820, 821, 822, 823],
  [824, 825, 826, 827, 828, 829, 830, 831, 832, 833, 834, 835, 836],
  [837, 838, 839, 840, 841],
  [842, 843, 844, 845, 846],
  [847, 848, 849, 850, 851, 852, 853, 854, 855, 856]]
set_option maxRecDepth 100000 in
theorem strW_0 : (List.range 40).all (fun j => decide (strW j = (strX.getD j []).filterMap (fun i => nar[i]?))) = true := by decide +kernel
theorem strW_in {j : Nat} (hj : j < 40) : ∀ w ∈ strW j, w ∈ nar := mem_p (strX.getD j []) (of_decide_eq_true (List.all_eq_true.mp strW_0 j (List.mem_range.mpr hj)))
def isSR (own : String) (k : Nat) (c : Option Cond) : Bool := match c with
  | some (.stringRef o i _) => decide (o = own) && Nat.beq i k
  | _ => false
theorem isSR_ok {own : String} {k : Nat} {i : Nat} (h : isSR own k (lw_tbl[i]?) = true) : ∃ tx, Cond.stringRef own k tx ∈ lw_tbl := by
  unfold isSR at h
  split at h
  · rename_i o q tx e
    rw [Bool.and_eq_true] at h
    obtain rfl := of_decide_eq_true h.1
    obtain rfl := Nat.eq_of_beq_eq_true h.2
    exact ⟨tx, List.mem_of_getElem? e⟩
  · cases h
def srX : List Nat := [63, 172, 225, 316, 496, 497, 498, 526, 651, 654, 978, 741, 742, 747, 748, 749, 750, 754, 870, 871, 872, 979, 980, 981, 982, 983, 984, 985, 1101, 1187, 1194, 1198, 1245, 1246, 1247, 1248, 1249, 1250, 1251, 1252]
set_option maxRecDepth 100000 in
theorem sr_0 : (List.range 40).all (fun j => isSR (cNm (sTb j).1) (sTb j).2.1 (lw_tbl[srX.getD j 0]?)) = true := by decide +kernel
theorem sr_in {j : Nat} (hj : j < 40) : ∃ tx, Cond.stringRef (cNm (sTb j).1) (sTb j).2.1 tx ∈ lw_tbl := isSR_ok (List.all_eq_true.mp sr_0 j (List.mem_range.mpr hj))
theorem sTb_2 : ∀ t ∈ sTab, ∃ j, j < 40 ∧ t = sTb j ∧ t.2.2 = plS j := by decide +kernel
theorem w_csL : Cond.laysStatic "java/lang/String" "COMPACT_STRINGS" "Z" ∈ lw_tbl := List.mem_of_getElem? (i := 182) (by decide +kernel)
theorem w_sfL : Cond.laysStatic "jdk/internal/util/Preconditions" "SIOOBE_FORMATTER" "Ljava/util/function/BiFunction;" ∈ lw_tbl := List.mem_of_getElem? (i := 341) (by decide +kernel)
theorem w_pcI : Cond.initialized "jdk/internal/util/Preconditions" ∈ lw_tbl := List.mem_of_getElem? (i := 35) (by decide +kernel)
theorem n_cs : Cond.eq (.static "java/lang/String" "COMPACT_STRINGS" "Z") (.int 1) ∈ nar := List.mem_of_getElem? (i := 4) (by decide +kernel)
theorem n_sf : Cond.isRef (.static "jdk/internal/util/Preconditions" "SIOOBE_FORMATTER" "Ljava/util/function/BiFunction;") ∈ nar := List.mem_of_getElem? (i := 5) (by decide +kernel)
def tmD (w : Nat) : Term := .static (gsF (w + 1)).1 (gsF (w + 1)).2.1 (gsF (w + 1)).2.2
def digW (w : Nat) : List Cond := .arrayOf (tmD w) .byte :: .eq (.length (tmD w)) (.int (Int32.ofNat 100)) :: (List.range 100).map (fun k => .eq (.elem (tmD w) (.int (Int32.ofNat k))) (.int (digV w k)))
def digX : List (List Nat) := [[10, 11, 12, 13, 14, 15, 16, 17, 18, 19, 20, 21, 22, 23, 24, 25, 26, 27, 28, 29, 30, 31, 32, 33, 34, 35, 36, 37, 38, 39, 40, 41, 42, 43, 44, 45, 46, 47, 48, 49, 50, 51, 52, 53, 54, 55, 56, 57, 58, 59, 60, 61, 62, 63, 64, 65, 66, 67, 68, 69, 70, 71, 72, 73, 74, 75, 76, 77, 78, 79, 80, 81, 82, 83, 84, 85, 86, 87, 88, 89, 90, 91, 92, 93, 94, 95, 96, 97, 98, 99, 100, 101, 102, 103, 104, 105, 106, 107, 108, 109, 110, 111], [113, 114, 115, 116, 117, 118, 119, 120, 121, 122, 123, 124, 125, 126, 127, 128, 129, 130, 131, 132, 133, 134, 135, 136, 137, 138, 139, 140, 141, 142, 143, 144, 145, 146, 147, 148, 149, 150, 151, 152, 153, 154, 155, 156, 157, 158, 159, 160, 161, 162, 163, 164, 165, 166, 167, 168, 169, 170, 171, 172, 173, 174, 175, 176, 177, 178, 179, 180, 181, 182, 183, 184, 185, 186, 187, 188, 189, 190, 191, 192, 193, 194, 195, 196, 197, 198, 199, 200, 201, 202, 203, 204, 205, 206, 207, 208, 209, 210, 211, 212, 213, 214]]
set_option maxRecDepth 100000 in
theorem digW_0 : (List.range 2).all (fun w => decide (digW w = (digX.getD w []).filterMap (fun i => nar[i]?))) = true := by decide +kernel
theorem digW_in {j : Nat} (hj : j < 2) : ∀ w ∈ digW j, w ∈ nar := mem_p (digX.getD j []) (of_decide_eq_true (List.all_eq_true.mp digW_0 j (List.mem_range.mpr hj)))
theorem w_dgL : ∀ w, w < 2 → Cond.laysStatic (gsF (w + 1)).1 (gsF (w + 1)).2.1 (gsF (w + 1)).2.2 ∈ lw_tbl := fun w hw => by
  obtain rfl | rfl : w = 0 ∨ w = 1 := by omega
  · exact List.mem_of_getElem? (i := 1119) (by decide +kernel)
  · exact List.mem_of_getElem? (i := 1121) (by decide +kernel)
theorem w_inI : Cond.initialized "java/lang/Integer" ∈ lw_tbl := List.mem_of_getElem? (i := 48) (by decide +kernel)
