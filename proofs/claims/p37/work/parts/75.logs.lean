/-! What the constructors do. -/
def cLG1 : List UP := [.inr (.inl (159, 4, 0)), .inr (.inr (159, 3, some 194)), .inr (.inr (194, 12, some 219)), .inl (20, 5), .inr (.inr (194, 11, some 218)), .inl (20, 7), .inr (.inr (194, 10, some 217)), .inl (20, 4), .inr (.inl (216, 3, -1)), .inr (.inl (216, 2, -1)), .inr (.inl (216, 1, -1)), .inr (.inl (216, 0, -1)), .inr (.inr (194, 9, some 216)), .inl (20, 4), .inr (.inr (194, 8, some 215)), .inl (25, 4), .inr (.inr (194, 7, some 214)), .inl (24, 4), .inr (.inr (194, 6, some 213)), .inl (24, 4), .inr (.inr (194, 5, some 212)), .inl (20, 1000), .inr (.inr (194, 4, some 208)), .inr (.inr (208, 2, some 211)), .inl (20, 8), .inr (.inr (208, 1, some 210)), .inl (20, 32), .inr (.inr (208, 0, some 209)), .inl (20, 32), .inl (8, 3), .inr (.inr (194, 3, some 203)), .inr (.inr (203, 3, some 207)), .inl (20, 3), .inr (.inr (203, 2, some 206)), .inl (22, 27), .inr (.inr (203, 1, some 205)), .inl (22, 27), .inr (.inr (203, 0, some 204)), .inl (20, 9), .inl (3, 5), .inr (.inr (194, 2, some 201)), .inr (.inr (201, 0, some 202)), .inl (20, 32), .inl (1, 1), .inr (.inr (194, 1, some 199)), .inr (.inr (199, 0, some 200)), .inl (20, 32), .inl (1, 1), .inr (.inr (194, 0, some 195)), .inr (.inr (195, 2, some 198)), .inl (20, 80), .inr (.inr (195, 1, some 197)), .inl (20, 8), .inr (.inr (195, 0, some 196)), .inl (20, 1446), .inl (5, 5), .inl (9, 15), .inr (.inr (159, 2, some 168)), .inr (.inr (168, 12, some 193)), .inl (20, 5), .inr (.inr (168, 11, some 192)), .inl (20, 7), .inr (.inr (168, 10, some 191)), .inl (20, 4), .inr (.inl (190, 3, -1)), .inr (.inl (190, 2, -1)), .inr (.inl (190, 1, -1)), .inr (.inl (190, 0, -1)), .inr (.inr (168, 9, some 190)), .inl (20, 4), .inr (.inr (168, 8, some 189)), .inl (25, 4), .inr (.inr (168, 7, some 188)), .inl (24, 4), .inr (.inr (168, 6, some 187)), .inl (24, 4), .inr (.inr (168, 5, some 186)), .inl (20, 1000), .inr (.inr (168, 4, some 182)), .inr (.inr (182, 2, some 185)), .inl (20, 8), .inr (.inr (182, 1, some 184)), .inl (20, 32), .inr (.inr (182, 0, some 183)), .inl (20, 32), .inl (8, 3), .inr (.inr (168, 3, some 177)), .inr (.inr (177, 3, some 181)), .inl (20, 3), .inr (.inr (177, 2, some 180)), .inl (22, 27), .inr (.inr (177, 1, some 179)), .inl (22, 27), .inr (.inr (177, 0, some 178)), .inl (20, 9), .inl (3, 5), .inr (.inr (168, 2, some 175)), .inr (.inr (175, 0, some 176)), .inl (20, 32), .inl (1, 1), .inr (.inr (168, 1, some 173)), .inr (.inr (173, 0, some 174)), .inl (20, 32), .inl (1, 1), .inr (.inr (168, 0, some 169)), .inr (.inr (169, 2, some 172)), .inl (20, 80), .inr (.inr (169, 1, some 171)), .inl (20, 8), .inr (.inr (169, 0, some 170)), .inl (20, 1446), .inl (5, 5), .inl (9, 15), .inr (.inr (159, 1, some 163)), .inr (.inr (163, 2, some 166)), .inr (.inr (166, 0, some 167)), .inl (20, 32), .inl (1, 1), .inr (.inr (163, 1, some 165)), .inl (23, 40), .inr (.inr (163, 0, some 164)), .inl (20, 40), .inl (0, 7), .inr (.inr (159, 0, some 160)), .inr (.inl (160, 6, -1)), .inr (.inr (160, 2, some 1)), .inr (.inr (160, 1, some 162)), .inl (20, 160), .inr (.inr (160, 0, some 161)), .inl (20, 160), .inl (10, 7), .inl (11, 5)]
theorem beqF {a b : Nat} (h : a ≠ b) : Nat.beq a b = false := by
  cases hq : Nat.beq a b with
  | false => rfl
  | true => exact absurd (Nat.eq_of_beq_eq_true hq) h
def eqUP (u v : UP) : Bool := match u, v with
  | .inl (a, b), .inl (c, d) => Nat.beq a c && Nat.beq b d
  | .inr (.inl (a, j, x)), .inr (.inl (b, k, y)) => Nat.beq a b && (Nat.beq j k && decide (x = y))
  | .inr (.inr (a, j, x)), .inr (.inr (b, k, y)) => Nat.beq a b && (Nat.beq j k && decide (x = y))
  | _, _ => false
theorem eqUP_ok {u v : UP} (h : eqUP u v = true) : u = v := by
  unfold eqUP at h
  split at h
  · rw [Bool.and_eq_true] at h
    rw [Nat.eq_of_beq_eq_true h.1, Nat.eq_of_beq_eq_true h.2]
  · rw [Bool.and_eq_true, Bool.and_eq_true] at h
    rw [Nat.eq_of_beq_eq_true h.1, Nat.eq_of_beq_eq_true h.2.1, of_decide_eq_true h.2.2]
  · rw [Bool.and_eq_true, Bool.and_eq_true] at h
    rw [Nat.eq_of_beq_eq_true h.1, Nat.eq_of_beq_eq_true h.2.1, of_decide_eq_true h.2.2]
  · cases h
def eqUL : List UP → List UP → Bool
  | [], [] => true
  | u :: L, v :: K => eqUP u v && eqUL L K
  | _, _ => false
theorem eqUL_ok : ∀ {L K : List UP}, eqUL L K = true → L = K
  | [], [], _ => rfl
  | u :: L, v :: K, h => by
    have h : (eqUP u v && eqUL L K) = true := h
    rw [Bool.and_eq_true] at h
    rw [eqUP_ok h.1, eqUL_ok h.2]
  | [], _ :: _, h => by cases h
  | _ :: _, [], h => by cases h
def eqEL (r : Option (Option PV × List UP)) (L : List UP) : Bool := match r with
  | some (none, acc) => eqUL acc L
  | _ => false
theorem eqEL_ok {r : Option (Option PV × List UP)} {L : List UP} (h : eqEL r L = true) : r = some (none, L) := by
  unfold eqEL at h
  split at h
  · rw [eqUL_ok h]
  · cases h
/-- the memory at the law's entry -/
def kd0 (a : Nat) : Nat := bif Nat.blt a 45 || (Nat.ble 106 a && Nat.blt a 159) then kdT a else 99
def ln0 (a : Nat) : Nat := bif Nat.blt a 159 then lnT a else 0
def in0 (a k : Nat) : Int32 := bif Nat.blt a 45 then (bif Nat.beq (a % 2) 0 then (strL.getD (a / 2 - 1) []).getD k 0 else 0) else bif Nat.ble 106 a && Nat.blt a 142 then (bif Nat.beq (a % 2) 1 then (strL.getD ((a - 63) / 2) []).getD k 0 else 0) else bif Nat.beq a 142 then digV 0 k else bif Nat.beq a 143 then digV 1 k else 0
def rf0 (a k : Nat) : Option Nat := bif (Nat.blt a 45 || (Nat.ble 106 a && Nat.blt a 142)) && isFn a k then some (rfT a k) else none
def pm0 (L : Nat) (xs : Nat → Int32) : PM := (159, 0, fun a => kd0 a, fun a => bif Nat.beq a 0 then L else ln0 a, fun a k => bif Nat.beq a 0 then xs k else in0 a k, rf0)
def cM0 : PM := pm0 0 (fun _ => 0)
theorem ag_pm0 (L : Nat) (xs : Nat → Int32) : AG (pm0 L xs) cM0 := by
  refine ⟨rfl, rfl, rfl, fun a ha => ?_, fun a ha => ?_, rfl⟩
  · show (bif Nat.beq a 0 then _ else _) = (bif Nat.beq a 0 then _ else _)
    rw [beqF ha]
    rfl
  · funext k
    show (bif Nat.beq a 0 then _ else _) = (bif Nat.beq a 0 then _ else _)
    rw [beqF ha]
    rfl
set_option maxRecDepth 100000 in
theorem ev1 : execL cM0 600 103 0 0 (locE GG 0 [vR (some 159)]) [] [.inl (11, 5)] = some (none, cLG1) := eqEL_ok (by decide +kernel)
def cMF : PM := apR cM0 cLG1
theorem mf1 : pSz cMF = 220 := by decide +kernel
theorem mf2 : pSl cMF = 6048 := by decide +kernel

