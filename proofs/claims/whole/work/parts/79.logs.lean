/-! What the constructors do. -/
def cLG1 : List UP := [.inr (.inl (45, 4, 0)), .inr (.inr (45, 3, some 80)), .inr (.inr (80, 12, some 105)), .inl (20, 5), .inr (.inr (80, 11, some 104)), .inl (20, 7), .inr (.inr (80, 10, some 103)), .inl (20, 4), .inr (.inl (102, 3, -1)), .inr (.inl (102, 2, -1)), .inr (.inl (102, 1, -1)), .inr (.inl (102, 0, -1)), .inr (.inr (80, 9, some 102)), .inl (20, 4), .inr (.inr (80, 8, some 101)), .inl (25, 4), .inr (.inr (80, 7, some 100)), .inl (24, 4), .inr (.inr (80, 6, some 99)), .inl (24, 4), .inr (.inr (80, 5, some 98)), .inl (20, 1000), .inr (.inr (80, 4, some 94)), .inr (.inr (94, 2, some 97)), .inl (20, 8), .inr (.inr (94, 1, some 96)), .inl (20, 32), .inr (.inr (94, 0, some 95)), .inl (20, 32), .inl (8, 3), .inr (.inr (80, 3, some 89)), .inr (.inr (89, 3, some 93)), .inl (20, 3), .inr (.inr (89, 2, some 92)), .inl (22, 27), .inr (.inr (89, 1, some 91)), .inl (22, 27), .inr (.inr (89, 0, some 90)), .inl (20, 9), .inl (3, 5), .inr (.inr (80, 2, some 87)), .inr (.inr (87, 0, some 88)), .inl (20, 32), .inl (1, 1), .inr (.inr (80, 1, some 85)), .inr (.inr (85, 0, some 86)), .inl (20, 32), .inl (1, 1), .inr (.inr (80, 0, some 81)), .inr (.inr (81, 2, some 84)), .inl (20, 80), .inr (.inr (81, 1, some 83)), .inl (20, 8), .inr (.inr (81, 0, some 82)), .inl (20, 1446), .inl (5, 5), .inl (9, 15), .inr (.inr (45, 2, some 54)), .inr (.inr (54, 12, some 79)), .inl (20, 5), .inr (.inr (54, 11, some 78)), .inl (20, 7), .inr (.inr (54, 10, some 77)), .inl (20, 4), .inr (.inl (76, 3, -1)), .inr (.inl (76, 2, -1)), .inr (.inl (76, 1, -1)), .inr (.inl (76, 0, -1)), .inr (.inr (54, 9, some 76)), .inl (20, 4), .inr (.inr (54, 8, some 75)), .inl (25, 4), .inr (.inr (54, 7, some 74)), .inl (24, 4), .inr (.inr (54, 6, some 73)), .inl (24, 4), .inr (.inr (54, 5, some 72)), .inl (20, 1000), .inr (.inr (54, 4, some 68)), .inr (.inr (68, 2, some 71)), .inl (20, 8), .inr (.inr (68, 1, some 70)), .inl (20, 32), .inr (.inr (68, 0, some 69)), .inl (20, 32), .inl (8, 3), .inr (.inr (54, 3, some 63)), .inr (.inr (63, 3, some 67)), .inl (20, 3), .inr (.inr (63, 2, some 66)), .inl (22, 27), .inr (.inr (63, 1, some 65)), .inl (22, 27), .inr (.inr (63, 0, some 64)), .inl (20, 9), .inl (3, 5), .inr (.inr (54, 2, some 61)), .inr (.inr (61, 0, some 62)), .inl (20, 32), .inl (1, 1), .inr (.inr (54, 1, some 59)), .inr (.inr (59, 0, some 60)), .inl (20, 32), .inl (1, 1), .inr (.inr (54, 0, some 55)), .inr (.inr (55, 2, some 58)), .inl (20, 80), .inr (.inr (55, 1, some 57)), .inl (20, 8), .inr (.inr (55, 0, some 56)), .inl (20, 1446), .inl (5, 5), .inl (9, 15), .inr (.inr (45, 1, some 49)), .inr (.inr (49, 2, some 52)), .inr (.inr (52, 0, some 53)), .inl (20, 32), .inl (1, 1), .inr (.inr (49, 1, some 51)), .inl (23, 40), .inr (.inr (49, 0, some 50)), .inl (20, 40), .inl (0, 7), .inr (.inr (45, 0, some 46)), .inr (.inl (46, 6, -1)), .inr (.inr (46, 2, some 1)), .inr (.inr (46, 1, some 48)), .inl (20, 160), .inr (.inr (46, 0, some 47)), .inl (20, 160), .inl (10, 7), .inl (11, 5)]
def cLGm0 : List UP := [.inr (.inl (108, 56, 112)), .inr (.inl (108, 55, 32)), .inr (.inl (108, 54, 110)), .inr (.inl (108, 53, 101)), .inr (.inl (108, 52, 112)), .inr (.inl (108, 51, 111)), .inr (.inl (108, 50, 32)), .inr (.inl (108, 49, 100)), .inr (.inl (108, 48, 101)), .inr (.inl (108, 47, 115)), .inr (.inl (108, 46, 111)), .inr (.inl (108, 45, 108)), .inr (.inl (108, 44, 99)), .inr (.inl (108, 43, 32)), .inr (.inl (108, 42, 116)), .inr (.inl (108, 41, 111)), .inr (.inl (108, 40, 103)), .inr (.inl (108, 39, 32)), .inr (.inl (108, 38, 116)), .inr (.inl (108, 37, 110)), .inr (.inl (108, 36, 101)), .inr (.inl (108, 35, 115)), .inr (.inl (108, 34, 32)), .inr (.inl (108, 33, 100)), .inr (.inl (108, 32, 101)), .inr (.inl (108, 31, 99)), .inr (.inl (108, 30, 105)), .inr (.inl (108, 29, 114)), .inr (.inl (108, 28, 112)), .inr (.inl (108, 27, 32)), .inr (.inl (108, 26, 100)), .inr (.inl (108, 25, 101)), .inr (.inl (108, 24, 101)), .inr (.inl (108, 23, 114)), .inr (.inl (108, 22, 102)), .inr (.inl (108, 21, 32)), .inr (.inl (108, 20, 100)), .inr (.inl (108, 19, 108)), .inr (.inl (108, 18, 101)), .inr (.inl (108, 17, 104)), .inr (.inl (108, 16, 32)), .inr (.inl (108, 15, 110)), .inr (.inl (108, 14, 101)), .inr (.inl (108, 13, 107)), .inr (.inl (108, 12, 97)), .inr (.inl (108, 11, 116)), .inr (.inl (108, 10, 32)), .inr (.inl (108, 9, 116)), .inr (.inl (108, 8, 117)), .inr (.inl (108, 7, 112)), .inr (.inl (108, 6, 32)), .inr (.inl (108, 5, 100)), .inr (.inl (108, 4, 101)), .inr (.inl (108, 3, 110)), .inr (.inl (108, 2, 101)), .inr (.inl (108, 1, 112)), .inr (.inl (108, 0, 111)), .inl (20, 163), .inr (.inr (106, 1, some 107)), .inl (20, 160)]
def cLGm1 : List UP := [.inr (.inl (108, 116, 115)), .inr (.inl (108, 115, 114)), .inr (.inl (108, 114, 105)), .inr (.inl (108, 113, 102)), .inr (.inl (108, 112, 32)), .inr (.inl (108, 111, 116)), .inr (.inl (108, 110, 115)), .inr (.inl (108, 109, 97)), .inr (.inl (108, 108, 101)), .inr (.inl (108, 107, 108)), .inr (.inl (108, 106, 32)), .inr (.inl (108, 105, 116)), .inr (.inl (108, 104, 115)), .inr (.inl (108, 103, 111)), .inr (.inl (108, 102, 109)), .inr (.inl (108, 101, 32)), .inr (.inl (108, 100, 116)), .inr (.inl (108, 99, 110)), .inr (.inl (108, 98, 117)), .inr (.inl (108, 97, 111)), .inr (.inl (108, 96, 99)), .inr (.inl (108, 95, 32)), .inr (.inl (108, 94, 109)), .inr (.inl (108, 93, 117)), .inr (.inl (108, 92, 115)), .inr (.inl (108, 91, 32)), .inr (.inl (108, 90, 101)), .inr (.inl (108, 89, 115)), .inr (.inl (108, 88, 111)), .inr (.inl (108, 87, 108)), .inr (.inl (108, 86, 99)), .inr (.inl (108, 85, 32)), .inr (.inl (108, 84, 100)), .inr (.inl (108, 83, 110)), .inr (.inl (108, 82, 101)), .inr (.inl (108, 81, 115)), .inr (.inl (108, 80, 32)), .inr (.inl (108, 79, 101)), .inr (.inl (108, 78, 99)), .inr (.inl (108, 77, 105)), .inr (.inl (108, 76, 114)), .inr (.inl (108, 75, 112)), .inr (.inl (108, 74, 32)), .inr (.inl (108, 73, 101)), .inr (.inl (108, 72, 101)), .inr (.inl (108, 71, 114)), .inr (.inl (108, 70, 102)), .inr (.inl (108, 69, 32)), .inr (.inl (108, 68, 100)), .inr (.inl (108, 67, 108)), .inr (.inl (108, 66, 111)), .inr (.inl (108, 65, 104)), .inr (.inl (108, 64, 32)), .inr (.inl (108, 63, 101)), .inr (.inl (108, 62, 107)), .inr (.inl (108, 61, 97)), .inr (.inl (108, 60, 116)), .inr (.inl (108, 59, 32)), .inr (.inl (108, 58, 116)), .inr (.inl (108, 57, 117))]
def cLGm2 : List UP := [.inl (20, 241), .inr (.inr (106, 16, some 114)), .inl (20, 241), .inr (.inr (106, 15, some 113)), .inl (20, 241), .inr (.inr (106, 13, some 112)), .inl (20, 5), .inr (.inr (106, 12, some 111)), .inl (20, 170), .inr (.inr (106, 8, some 110)), .inl (20, 160), .inr (.inr (106, 7, some 109)), .inl (20, 39200), .inr (.inr (106, 6, some 108)), .inr (.inl (108, 162, 32)), .inr (.inl (108, 161, 108)), .inr (.inl (108, 160, 108)), .inr (.inl (108, 159, 97)), .inr (.inl (108, 158, 32)), .inr (.inl (108, 157, 111)), .inr (.inl (108, 156, 116)), .inr (.inl (108, 155, 32)), .inr (.inl (108, 154, 111)), .inr (.inl (108, 153, 100)), .inr (.inl (108, 152, 32)), .inr (.inl (108, 151, 110)), .inr (.inl (108, 150, 111)), .inr (.inl (108, 149, 32)), .inr (.inl (108, 148, 102)), .inr (.inl (108, 147, 105)), .inr (.inl (108, 146, 32)), .inr (.inl (108, 145, 121)), .inr (.inl (108, 144, 98)), .inr (.inl (108, 143, 32)), .inr (.inl (108, 142, 102)), .inr (.inl (108, 141, 111)), .inr (.inl (108, 140, 32)), .inr (.inl (108, 139, 101)), .inr (.inl (108, 138, 110)), .inr (.inl (108, 137, 111)), .inr (.inl (108, 136, 110)), .inr (.inl (108, 135, 32)), .inr (.inl (108, 134, 100)), .inr (.inl (108, 133, 110)), .inr (.inl (108, 132, 105)), .inr (.inl (108, 131, 107)), .inr (.inl (108, 130, 32)), .inr (.inl (108, 129, 109)), .inr (.inl (108, 128, 97)), .inr (.inl (108, 127, 101)), .inr (.inl (108, 126, 114)), .inr (.inl (108, 125, 116)), .inr (.inl (108, 124, 115)), .inr (.inl (108, 123, 32)), .inr (.inl (108, 122, 116)), .inr (.inl (108, 121, 115)), .inr (.inl (108, 120, 97)), .inr (.inl (108, 119, 108)), .inr (.inl (108, 118, 32)), .inr (.inl (108, 117, 116))]
def cLGm3 : List UP := [.inl (20, 4), .inr (.inr (106, 61, some 144)), .inl (20, 9), .inr (.inr (106, 60, some 143)), .inl (20, 9), .inr (.inr (106, 55, some 142)), .inl (20, 72), .inr (.inr (106, 54, some 141)), .inl (20, 72), .inr (.inr (106, 53, some 140)), .inl (20, 8), .inr (.inr (106, 52, some 139)), .inl (20, 8), .inr (.inr (106, 51, some 138)), .inl (20, 8), .inr (.inr (106, 50, some 137)), .inl (20, 8), .inr (.inr (106, 49, some 136)), .inl (20, 8), .inr (.inr (106, 48, some 135)), .inl (20, 8), .inr (.inr (106, 46, some 134)), .inl (20, 80), .inr (.inr (106, 45, some 133)), .inl (20, 32), .inr (.inr (106, 44, some 132)), .inl (20, 32), .inr (.inr (106, 43, some 131)), .inl (20, 8), .inr (.inr (106, 41, some 130)), .inl (20, 40), .inr (.inr (106, 40, some 129)), .inl (20, 40), .inr (.inr (106, 39, some 128)), .inl (20, 40), .inr (.inr (106, 38, some 127)), .inl (20, 40), .inr (.inr (106, 36, some 126)), .inl (20, 1000), .inr (.inr (106, 35, some 125)), .inl (20, 7), .inr (.inr (106, 30, some 124)), .inl (20, 32), .inr (.inr (106, 29, some 123)), .inl (20, 32), .inr (.inr (106, 28, some 122)), .inl (20, 8), .inr (.inr (106, 27, some 121)), .inl (20, 4), .inr (.inr (106, 24, some 120)), .inl (20, 8), .inr (.inr (106, 21, some 119)), .inl (20, 9), .inr (.inr (106, 20, some 118)), .inl (20, 241), .inr (.inr (106, 19, some 117)), .inl (20, 241), .inr (.inr (106, 18, some 116)), .inl (20, 241), .inr (.inr (106, 17, some 115))]
def cLGm4 : List UP := [.inr (.inr (106, 77, some 158)), .inl (20, 4200), .inr (.inr (106, 74, some 157)), .inl (20, 4), .inr (.inr (106, 73, some 156)), .inl (20, 4), .inr (.inr (106, 72, some 155)), .inl (20, 4), .inr (.inr (106, 71, some 154)), .inl (20, 4), .inr (.inr (106, 70, some 153)), .inl (20, 4), .inr (.inr (106, 69, some 152)), .inl (20, 4), .inr (.inr (106, 68, some 151)), .inl (20, 4), .inr (.inr (106, 67, some 150)), .inl (20, 4), .inr (.inr (106, 66, some 149)), .inl (20, 4), .inr (.inr (106, 65, some 148)), .inl (20, 4), .inr (.inr (106, 64, some 147)), .inl (20, 4), .inr (.inr (106, 63, some 146)), .inl (20, 4), .inr (.inr (106, 62, some 145))]
def cLG2 : List UP := cLGm4 ++ (cLGm3 ++ (cLGm2 ++ (cLGm1 ++ (cLGm0 ++ (.inl (12, 79) :: cLG1)))))
theorem beqF {a b : Nat} (h : a ≠ b) : Nat.beq a b = false := by
  cases hq : Nat.beq a b with
  | false => rfl
  | true => exact absurd (Nat.eq_of_beq_eq_true hq) h
def eqUP (u v : UP) : Bool := match u, v with
  | .inl (a, b), .inl (c, d) => Nat.beq a c && Nat.beq b d
  | .inr (.inl (a, j, x)), .inr (.inl (b, k, y)) => Nat.beq a b && (Nat.beq j k && decide (x = y))
  | .inr (.inr (a, j, x)), .inr (.inr (b, k, y)) => Nat.beq a b && (Nat.beq j k && decide (x = y))
  | _, _ => false
theorem eqUP_ok {u v : UP} (h : eqUP u v = true) : u = v := by
  unfold eqUP at h
  split at h
  · rw [Bool.and_eq_true] at h
    rw [Nat.eq_of_beq_eq_true h.1, Nat.eq_of_beq_eq_true h.2]
  · rw [Bool.and_eq_true, Bool.and_eq_true] at h
    rw [Nat.eq_of_beq_eq_true h.1, Nat.eq_of_beq_eq_true h.2.1, of_decide_eq_true h.2.2]
  · rw [Bool.and_eq_true, Bool.and_eq_true] at h
    rw [Nat.eq_of_beq_eq_true h.1, Nat.eq_of_beq_eq_true h.2.1, of_decide_eq_true h.2.2]
  · cases h
def eqUL : List UP → List UP → Bool
  | [], [] => true
  | u :: L, v :: K => eqUP u v && eqUL L K
  | _, _ => false
theorem eqUL_ok : ∀ {L K : List UP}, eqUL L K = true → L = K
  | [], [], _ => rfl
  | u :: L, v :: K, h => by
    have h : (eqUP u v && eqUL L K) = true := h
    rw [Bool.and_eq_true] at h
    rw [eqUP_ok h.1, eqUL_ok h.2]
  | [], _ :: _, h => by cases h
  | _ :: _, [], h => by cases h
def eqEL (r : Option (Option PV × List UP)) (L : List UP) : Bool := match r with
  | some (none, acc) => eqUL acc L
  | _ => false
theorem eqEL_ok {r : Option (Option PV × List UP)} {L : List UP} (h : eqEL r L = true) : r = some (none, L) := by
  unfold eqEL at h
  split at h
  · rw [eqUL_ok h]
  · cases h
/-- the memory at the law's entry -/
def pm0 (L : Nat) (xs : Nat → Int32) : PM := (45, 0, fun a => bif Nat.beq a 0 then 19 else bif Nat.blt a 45 then (bif Nat.beq (a % 2) 1 then 13 else 21) else 99, fun a => bif Nat.beq a 0 then L else bif Nat.beq (a % 2) 1 then 2 else (strL.getD (a / 2 - 1) []).length,
  fun a k => bif Nat.beq a 0 then xs k else bif Nat.blt a 45 && Nat.beq (a % 2) 0 then (strL.getD (a / 2 - 1) []).getD k 0 else 0, fun a k => bif Nat.blt a 45 && (Nat.beq (a % 2) 1 && Nat.beq k 0) then some (a + 1) else none)
def cM0 : PM := pm0 0 (fun _ => 0)
theorem ag_pm0 (L : Nat) (xs : Nat → Int32) : AG (pm0 L xs) cM0 := by
  refine ⟨rfl, rfl, rfl, fun a ha => ?_, fun a ha => ?_, rfl⟩
  · show (bif Nat.beq a 0 then _ else _) = (bif Nat.beq a 0 then _ else _)
    rw [beqF ha]
    rfl
  · funext k
    show (bif Nat.beq a 0 then _ else _) = (bif Nat.beq a 0 then _ else _)
    rw [beqF ha]
    rfl
set_option maxRecDepth 100000 in
theorem ev1 : execL cM0 600 100 0 0 (locE GG 0 [vR (some 45)]) [] [.inl (11, 5)] = some (none, cLG1) := eqEL_ok (by decide +kernel)
set_option maxRecDepth 100000 in
theorem ev2 : execL cM0 1000 100 167 0 (locE GG 167 [vR (some 106)]) [] (.inl (12, 79) :: cLG1) = some (none, cLG2) := eqEL_ok (by decide +kernel)
def cMF : PM := apR cM0 cLG2
theorem mf1 : pSz cMF = 159 := by decide +kernel
theorem mf2 : pSl cMF = 53305 := by decide +kernel
theorem mf3 : (List.range 159).all (fun a => Nat.beq (pKd cMF a) (kdT a)) = true := by decide +kernel
theorem mf4 : (List.range 159).all (fun a => Nat.beq a 0 || Nat.beq (pLn cMF a) (lnT a)) = true := by decide +kernel
theorem mf5 : (List.range 159).all (fun a => (List.range 80).all (fun k => !(isFn a k) || decide (pR cMF a k = some (rfT a k)))) = true := by decide +kernel
theorem mf6 : (List.range 4).all (fun c => decide (pI cMF 76 c = -1)) = true := by decide +kernel
theorem mf7 : (List.range 163).all (fun k => decide (pI cMF 108 k = wdT.getD k 0)) = true := by decide +kernel
theorem mf8 : pI cMF 46 4 = 0 := by decide +kernel
def spA (a : Nat) : Bool := Nat.beq a 46 || (Nat.beq a 76 || (Nat.beq a 102 || Nat.beq a 108))
def nrA (a : Nat) : Bool := Nat.beq a 65 || (Nat.beq a 66 || (Nat.beq a 73 || (Nat.beq a 74 || (Nat.beq a 75 || (Nat.beq a 99 || (Nat.beq a 100 || Nat.beq a 101))))))
