/-! What the Statement gives of the start, as rows. -/
def nar : List Cond := flatC (Jvm.Cond.and given_1 narrow_1)
def sTb (j : Nat) : Nat × Nat × Nat := sTab.getD j (0, 0, 0)
def tmS (j : Nat) : Term := .string (cNm (sTb j).1) (sTb j).2.1
def strW (j : Nat) : List Cond := .exactly (tmS j) "java/lang/String" :: .eq (.field (tmS j) "java/lang/String" "coder" "B") (.int 0) :: .arrayOf (.field (tmS j) "java/lang/String" "value" "[B") .byte :: .eq (.length (.field (tmS j) "java/lang/String" "value" "[B")) (.int (Int32.ofNat (sL j).length))
  :: (List.range (sL j).length).map (fun k => .eq (.elem (.field (tmS j) "java/lang/String" "value" "[B") (.int (Int32.ofNat k))) (.int ((sL j).getD k 0)))
def strX : List (List Nat) := [[61, 62, 63, 64, 65, 66, 67],
  [68, 69, 70, 71, 72, 73, 74],
  [76, 77, 78, 79, 80, 81, 82, 83, 84],
  [87, 88, 89, 90, 91, 92, 93, 94, 95, 96, 97, 98, 99, 100, 101, 102, 103, 104, 105, 106, 107, 108, 109, 110, 111, 112, 113, 114, 115, 116, 117, 118, 119, 120, 121, 122, 123, 124, 125, 126, 127, 128, 129, 130],
  [134, 135, 136, 137, 138, 139, 140],
  [145, 146, 147, 148, 149, 150],
  [156, 157, 158, 159, 160, 161, 162],
  [169, 170, 171, 172, 173, 174],
  [182, 183, 184, 185, 186, 187, 188, 189, 190, 191, 192, 193, 194, 195, 196, 197, 198, 199, 200, 201, 202, 203, 204, 205, 206, 207, 208, 209, 210, 211, 212, 213, 214, 215, 216, 217, 218, 219, 220, 221, 222, 223, 224, 225, 226, 227, 228, 229, 230, 231, 232, 233, 234, 235],
  [244, 245, 246, 247, 248, 249, 250],
  [260, 261, 262, 263, 264, 265, 266, 267, 268, 269, 270, 271, 272, 273, 274, 275, 276, 277, 278, 279, 280, 281, 282, 283, 284, 285, 286, 287, 288, 289, 290, 291, 292, 293, 294, 295, 296, 297, 298, 299, 300, 301, 302, 303, 304, 305, 306, 307, 308, 309, 310, 311, 312, 313],
  [324, 325, 326, 327, 328, 329, 330, 331, 332, 333, 334, 335, 336, 337, 338, 339, 340, 341, 342, 343, 344, 345, 346, 347, 348, 349, 350, 351, 352, 353, 354, 355, 356, 357, 358],
  [370, 371, 372, 373, 374, 375],
  [388, 389, 390, 391, 392, 393, 394, 395, 396, 397, 398, 399, 400, 401, 402, 403, 404, 405, 406, 407, 408, 409, 410, 411, 412, 413, 414, 415, 416, 417, 418, 419, 420, 421, 422, 423, 424, 425, 426, 427, 428, 429, 430, 431, 432, 433, 434, 435, 436, 437, 438, 439, 440, 441, 442, 443, 444, 445],
  [459, 460, 461, 462, 463, 464, 465, 466, 467, 468, 469, 470, 471, 472, 473, 474, 475, 476, 477, 478, 479, 480, 481, 482, 483, 484, 485, 486, 487, 488, 489, 490, 491, 492, 493, 494, 495, 496, 497, 498, 499, 500, 501, 502, 503, 504, 505, 506, 507, 508, 509, 510, 511, 512],
  [527, 528, 529, 530, 531, 532],
  [548, 549, 550, 551, 552, 553, 554, 555, 556, 557, 558, 559, 560, 561, 562, 563, 564, 565, 566, 567],
  [584, 585, 586, 587, 588, 589],
  [607, 608, 609, 610, 611, 612],
  [631, 632, 633, 634, 635, 636, 637, 638, 639],
  [659, 660, 661, 662, 663, 664],
  [685, 686, 687, 688, 689, 690, 691, 692, 693]]
set_option maxRecDepth 100000 in
theorem strW_0 : (List.range 22).all (fun j => decide (strW j = (strX.getD j []).filterMap (fun i => nar[i]?))) = true := by decide +kernel
theorem strW_in {j : Nat} (hj : j < 22) : ∀ w ∈ strW j, w ∈ nar := mem_p (strX.getD j []) (of_decide_eq_true (List.all_eq_true.mp strW_0 j (List.mem_range.mpr hj)))
def isSR (own : String) (k : Nat) (c : Option Cond) : Bool := match c with
  | some (.stringRef o i _) => decide (o = own) && Nat.beq i k
  | _ => false
theorem isSR_ok {own : String} {k : Nat} {i : Nat} (h : isSR own k (lw_tbl[i]?) = true) : ∃ tx, Cond.stringRef own k tx ∈ lw_tbl := by
  unfold isSR at h
  split at h
  · rename_i o q tx e
    rw [Bool.and_eq_true] at h
    obtain rfl := of_decide_eq_true h.1
    obtain rfl := Nat.eq_of_beq_eq_true h.2
    exact ⟨tx, List.mem_of_getElem? e⟩
  · cases h
def srX : List Nat := [121, 234, 287, 390, 570, 571, 572, 600, 725, 728, 871, 902, 903, 908, 909, 910, 911, 915, 1032, 1033, 1034, 1121]
set_option maxRecDepth 100000 in
theorem sr_0 : (List.range 22).all (fun j => isSR (cNm (sTb j).1) (sTb j).2.1 (lw_tbl[srX.getD j 0]?)) = true := by decide +kernel
theorem sr_in {j : Nat} (hj : j < 22) : ∃ tx, Cond.stringRef (cNm (sTb j).1) (sTb j).2.1 tx ∈ lw_tbl := isSR_ok (List.all_eq_true.mp sr_0 j (List.mem_range.mpr hj))
theorem sTb_2 : ∀ t ∈ sTab, ∃ j, j < 22 ∧ t = sTb j ∧ t.2.2 = 2 * j + 1 := by decide +kernel
theorem w_csL : Cond.laysStatic "java/lang/String" "COMPACT_STRINGS" "Z" ∈ lw_tbl := List.mem_of_getElem? (i := 244) (by decide +kernel)
theorem w_sfL : Cond.laysStatic "jdk/internal/util/Preconditions" "SIOOBE_FORMATTER" "Ljava/util/function/BiFunction;" ∈ lw_tbl := List.mem_of_getElem? (i := 415) (by decide +kernel)
theorem w_pcI : Cond.initialized "jdk/internal/util/Preconditions" ∈ lw_tbl := List.mem_of_getElem? (i := 97) (by decide +kernel)
theorem n_cs : Cond.eq (.static "java/lang/String" "COMPACT_STRINGS" "Z") (.int 1) ∈ nar := List.mem_of_getElem? (i := 4) (by decide +kernel)
theorem n_sf : Cond.isRef (.static "jdk/internal/util/Preconditions" "SIOOBE_FORMATTER" "Ljava/util/function/BiFunction;") ∈ nar := List.mem_of_getElem? (i := 5) (by decide +kernel)
