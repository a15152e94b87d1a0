/-! The formula of a stretch of code, over places that the constructors made. -/
abbrev IM : Type := Nat → Nat → Int32
/-- places, slots, kinds, lengths, references; what an array is for (a ghost) -/
abbrev DY : Type := Nat × Nat × (Nat → Nat) × (Nat → Nat) × (Nat → Nat → Option Nat) × (Nat → Nat)
abbrev dZ (D : DY) : Nat := D.1
abbrev dL (D : DY) : Nat := D.2.1
abbrev dK (D : DY) : Nat → Nat := D.2.2.1
abbrev dN (D : DY) : Nat → Nat := D.2.2.2.1
abbrev dR (D : DY) : Nat → Nat → Option Nat := D.2.2.2.2.1
abbrev dW (D : DY) : Nat → Nat := D.2.2.2.2.2
abbrev nST : Nat := 159
def kdT (a : Nat) : Nat := (bif Nat.ble a 78 then (bif Nat.ble a 38 then (bif Nat.ble a 18 then (bif Nat.ble a 8 then (bif Nat.ble a 3 then (bif Nat.ble a 1 then (bif Nat.ble a 0 then 19 else 13) else (bif Nat.ble a 2 then 21 else 13)) else (bif Nat.ble a 5 then (bif Nat.ble a 4 then 21 else 13) else (bif Nat.ble a 6 then 21 else (bif Nat.ble a 7 then 13 else 21)))) else (bif Nat.ble a 13 then (bif Nat.ble a 10 then (bif Nat.ble a 9 then 13 else 21) else (bif Nat.ble a 11 then 13 else (bif Nat.ble a 12 then 21 else 13))) else (bif Nat.ble a 15 then (bif Nat.ble a 14 then 21 else 13) else (bif Nat.ble a 16 then 21 else (bif Nat.ble a 17 then 13 else 21))))) else (bif Nat.ble a 28 then (bif Nat.ble a 23 then (bif Nat.ble a 20 then (bif Nat.ble a 19 then 13 else 21) else (bif Nat.ble a 21 then 13 else (bif Nat.ble a 22 then 21 else 13))) else (bif Nat.ble a 25 then (bif Nat.ble a 24 then 21 else 13) else (bif Nat.ble a 26 then 21 else (bif Nat.ble a 27 then 13 else 21)))) else (bif Nat.ble a 33 then (bif Nat.ble a 30 then (bif Nat.ble a 29 then 13 else 21) else (bif Nat.ble a 31 then 13 else (bif Nat.ble a 32 then 21 else 13))) else (bif Nat.ble a 35 then (bif Nat.ble a 34 then 21 else 13) else (bif Nat.ble a 36 then 21 else (bif Nat.ble a 37 then 13 else 21)))))) else (bif Nat.ble a 58 then (bif Nat.ble a 48 then (bif Nat.ble a 43 then (bif Nat.ble a 40 then (bif Nat.ble a 39 then 13 else 21) else (bif Nat.ble a 41 then 13 else (bif Nat.ble a 42 then 21 else 13))) else (bif Nat.ble a 45 then (bif Nat.ble a 44 then 21 else 11) else (bif Nat.ble a 46 then 10 else 20))) else (bif Nat.ble a 53 then (bif Nat.ble a 50 then (bif Nat.ble a 49 then 0 else 20) else (bif Nat.ble a 51 then 23 else (bif Nat.ble a 52 then 1 else 20))) else (bif Nat.ble a 55 then (bif Nat.ble a 54 then 9 else 5) else 20))) else (bif Nat.ble a 68 then (bif Nat.ble a 63 then (bif Nat.ble a 60 then (bif Nat.ble a 59 then 1 else 20) else (bif Nat.ble a 61 then 1 else (bif Nat.ble a 62 then 20 else 3))) else (bif Nat.ble a 65 then (bif Nat.ble a 64 then 20 else 22) else (bif Nat.ble a 66 then 22 else (bif Nat.ble a 67 then 20 else 8)))) else (bif Nat.ble a 73 then (bif Nat.ble a 70 then 20 else (bif Nat.ble a 71 then 20 else (bif Nat.ble a 72 then 20 else 24))) else (bif Nat.ble a 75 then (bif Nat.ble a 74 then 24 else 25) else 20))))) else (bif Nat.ble a 118 then (bif Nat.ble a 98 then (bif Nat.ble a 88 then (bif Nat.ble a 83 then (bif Nat.ble a 80 then (bif Nat.ble a 79 then 20 else 9) else (bif Nat.ble a 81 then 5 else 20)) else (bif Nat.ble a 85 then (bif Nat.ble a 84 then 20 else 1) else (bif Nat.ble a 86 then 20 else (bif Nat.ble a 87 then 1 else 20)))) else (bif Nat.ble a 93 then (bif Nat.ble a 90 then (bif Nat.ble a 89 then 3 else 20) else (bif Nat.ble a 91 then 22 else (bif Nat.ble a 92 then 22 else 20))) else (bif Nat.ble a 95 then (bif Nat.ble a 94 then 8 else 20) else 20))) else (bif Nat.ble a 108 then (bif Nat.ble a 103 then (bif Nat.ble a 100 then 24 else (bif Nat.ble a 101 then 25 else 20)) else (bif Nat.ble a 105 then 20 else (bif Nat.ble a 106 then 13 else (bif Nat.ble a 107 then 21 else 13)))) else (bif Nat.ble a 113 then (bif Nat.ble a 110 then (bif Nat.ble a 109 then 21 else 13) else (bif Nat.ble a 111 then 21 else (bif Nat.ble a 112 then 13 else 21))) else (bif Nat.ble a 115 then (bif Nat.ble a 114 then 13 else 21) else (bif Nat.ble a 116 then 13 else (bif Nat.ble a 117 then 21 else 13)))))) else (bif Nat.ble a 138 then (bif Nat.ble a 128 then (bif Nat.ble a 123 then (bif Nat.ble a 120 then (bif Nat.ble a 119 then 21 else 13) else (bif Nat.ble a 121 then 21 else (bif Nat.ble a 122 then 13 else 21))) else (bif Nat.ble a 125 then (bif Nat.ble a 124 then 13 else 21) else (bif Nat.ble a 126 then 13 else (bif Nat.ble a 127 then 21 else 13)))) else (bif Nat.ble a 133 then (bif Nat.ble a 130 then (bif Nat.ble a 129 then 21 else 13) else (bif Nat.ble a 131 then 21 else (bif Nat.ble a 132 then 13 else 21))) else (bif Nat.ble a 135 then (bif Nat.ble a 134 then 13 else 21) else (bif Nat.ble a 136 then 13 else (bif Nat.ble a 137 then 21 else 13))))) else (bif Nat.ble a 148 then (bif Nat.ble a 143 then (bif Nat.ble a 140 then (bif Nat.ble a 139 then 21 else 13) else 21) else 99) else 99))))
def lnT (a : Nat) : Nat := (bif Nat.ble a 78 then (bif Nat.ble a 38 then (bif Nat.ble a 18 then (bif Nat.ble a 8 then (bif Nat.ble a 3 then (bif Nat.ble a 1 then (bif Nat.ble a 0 then 0 else 2) else (bif Nat.ble a 2 then 3 else 2)) else (bif Nat.ble a 5 then (bif Nat.ble a 4 then 3 else 2) else (bif Nat.ble a 6 then 5 else (bif Nat.ble a 7 then 2 else 40)))) else (bif Nat.ble a 13 then (bif Nat.ble a 10 then (bif Nat.ble a 9 then 2 else 3) else 2) else (bif Nat.ble a 15 then (bif Nat.ble a 14 then 3 else 2) else (bif Nat.ble a 16 then 2 else (bif Nat.ble a 17 then 2 else 50))))) else (bif Nat.ble a 28 then (bif Nat.ble a 23 then (bif Nat.ble a 20 then (bif Nat.ble a 19 then 2 else 3) else (bif Nat.ble a 21 then 2 else (bif Nat.ble a 22 then 4 else 2))) else (bif Nat.ble a 25 then (bif Nat.ble a 24 then 31 else 2) else (bif Nat.ble a 26 then 2 else (bif Nat.ble a 27 then 2 else 54)))) else (bif Nat.ble a 33 then (bif Nat.ble a 30 then (bif Nat.ble a 29 then 2 else 50) else 2) else (bif Nat.ble a 35 then (bif Nat.ble a 34 then 16 else 2) else 2)))) else (bif Nat.ble a 58 then (bif Nat.ble a 48 then (bif Nat.ble a 43 then (bif Nat.ble a 40 then (bif Nat.ble a 39 then 2 else 5) else 2) else (bif Nat.ble a 45 then (bif Nat.ble a 44 then 3 else 5) else (bif Nat.ble a 46 then 7 else 160))) else (bif Nat.ble a 53 then (bif Nat.ble a 50 then (bif Nat.ble a 49 then 7 else 40) else (bif Nat.ble a 51 then 40 else (bif Nat.ble a 52 then 1 else 32))) else (bif Nat.ble a 55 then (bif Nat.ble a 54 then 15 else 5) else (bif Nat.ble a 56 then 1446 else (bif Nat.ble a 57 then 8 else 80))))) else (bif Nat.ble a 68 then (bif Nat.ble a 63 then (bif Nat.ble a 60 then (bif Nat.ble a 59 then 1 else 32) else (bif Nat.ble a 61 then 1 else (bif Nat.ble a 62 then 32 else 5))) else (bif Nat.ble a 65 then (bif Nat.ble a 64 then 9 else 27) else (bif Nat.ble a 66 then 27 else 3))) else (bif Nat.ble a 73 then (bif Nat.ble a 70 then 32 else (bif Nat.ble a 71 then 8 else (bif Nat.ble a 72 then 1000 else 4))) else (bif Nat.ble a 75 then 4 else (bif Nat.ble a 76 then 4 else (bif Nat.ble a 77 then 4 else 7))))))) else (bif Nat.ble a 118 then (bif Nat.ble a 98 then (bif Nat.ble a 88 then (bif Nat.ble a 83 then (bif Nat.ble a 80 then (bif Nat.ble a 79 then 5 else 15) else (bif Nat.ble a 81 then 5 else (bif Nat.ble a 82 then 1446 else 8))) else (bif Nat.ble a 85 then (bif Nat.ble a 84 then 80 else 1) else (bif Nat.ble a 86 then 32 else (bif Nat.ble a 87 then 1 else 32)))) else (bif Nat.ble a 93 then (bif Nat.ble a 90 then (bif Nat.ble a 89 then 5 else 9) else (bif Nat.ble a 91 then 27 else (bif Nat.ble a 92 then 27 else 3))) else (bif Nat.ble a 95 then (bif Nat.ble a 94 then 3 else 32) else (bif Nat.ble a 96 then 32 else (bif Nat.ble a 97 then 8 else 1000))))) else (bif Nat.ble a 108 then (bif Nat.ble a 103 then 4 else (bif Nat.ble a 105 then (bif Nat.ble a 104 then 7 else 5) else (bif Nat.ble a 106 then 2 else (bif Nat.ble a 107 then 4 else 2)))) else (bif Nat.ble a 113 then (bif Nat.ble a 110 then (bif Nat.ble a 109 then 4 else 2) else (bif Nat.ble a 111 then 4 else (bif Nat.ble a 112 then 2 else 5))) else (bif Nat.ble a 115 then (bif Nat.ble a 114 then 2 else 4) else (bif Nat.ble a 116 then 2 else (bif Nat.ble a 117 then 5 else 2)))))) else (bif Nat.ble a 138 then (bif Nat.ble a 128 then (bif Nat.ble a 123 then (bif Nat.ble a 120 then (bif Nat.ble a 119 then 1 else 2) else (bif Nat.ble a 121 then 4 else (bif Nat.ble a 122 then 2 else 6))) else (bif Nat.ble a 125 then (bif Nat.ble a 124 then 2 else 6) else (bif Nat.ble a 126 then 2 else (bif Nat.ble a 127 then 24 else 2)))) else (bif Nat.ble a 133 then (bif Nat.ble a 130 then (bif Nat.ble a 129 then 20 else 2) else (bif Nat.ble a 131 then 26 else (bif Nat.ble a 132 then 2 else 9))) else (bif Nat.ble a 135 then (bif Nat.ble a 134 then 2 else 9) else (bif Nat.ble a 136 then 2 else (bif Nat.ble a 137 then 1 else 2))))) else (bif Nat.ble a 148 then (bif Nat.ble a 143 then (bif Nat.ble a 140 then (bif Nat.ble a 139 then 1 else 2) else (bif Nat.ble a 141 then 6 else 100)) else 0) else 0))))
def isFn (a k : Nat) : Bool := bif Nat.ble 159 a then false else (bif Nat.ble a 78 then (bif Nat.ble a 38 then (bif Nat.ble a 18 then (bif Nat.ble a 8 then (bif Nat.ble a 3 then (bif Nat.ble a 1 then (bif Nat.ble a 0 then false else (Nat.blt k 1)) else (bif Nat.ble a 2 then false else (Nat.blt k 1))) else (bif Nat.ble a 5 then (bif Nat.ble a 4 then false else (Nat.blt k 1)) else (bif Nat.ble a 6 then false else (bif Nat.ble a 7 then (Nat.blt k 1) else false)))) else (bif Nat.ble a 13 then (bif Nat.ble a 10 then (bif Nat.ble a 9 then (Nat.blt k 1) else false) else (bif Nat.ble a 11 then (Nat.blt k 1) else (bif Nat.ble a 12 then false else (Nat.blt k 1)))) else (bif Nat.ble a 15 then (bif Nat.ble a 14 then false else (Nat.blt k 1)) else (bif Nat.ble a 16 then false else (bif Nat.ble a 17 then (Nat.blt k 1) else false))))) else (bif Nat.ble a 28 then (bif Nat.ble a 23 then (bif Nat.ble a 20 then (bif Nat.ble a 19 then (Nat.blt k 1) else false) else (bif Nat.ble a 21 then (Nat.blt k 1) else (bif Nat.ble a 22 then false else (Nat.blt k 1)))) else (bif Nat.ble a 25 then (bif Nat.ble a 24 then false else (Nat.blt k 1)) else (bif Nat.ble a 26 then false else (bif Nat.ble a 27 then (Nat.blt k 1) else false)))) else (bif Nat.ble a 33 then (bif Nat.ble a 30 then (bif Nat.ble a 29 then (Nat.blt k 1) else false) else (bif Nat.ble a 31 then (Nat.blt k 1) else (bif Nat.ble a 32 then false else (Nat.blt k 1)))) else (bif Nat.ble a 35 then (bif Nat.ble a 34 then false else (Nat.blt k 1)) else (bif Nat.ble a 36 then false else (bif Nat.ble a 37 then (Nat.blt k 1) else false)))))) else (bif Nat.ble a 58 then (bif Nat.ble a 48 then (bif Nat.ble a 43 then (bif Nat.ble a 40 then (bif Nat.ble a 39 then (Nat.blt k 1) else false) else (bif Nat.ble a 41 then (Nat.blt k 1) else (bif Nat.ble a 42 then false else (Nat.blt k 1)))) else (bif Nat.ble a 45 then (bif Nat.ble a 44 then false else (Nat.blt k 4)) else (bif Nat.ble a 46 then (Nat.blt k 2) else false))) else (bif Nat.ble a 53 then (bif Nat.ble a 50 then (bif Nat.ble a 49 then (Nat.blt k 3) else false) else (bif Nat.ble a 51 then false else (bif Nat.ble a 52 then (Nat.blt k 1) else false))) else (bif Nat.ble a 55 then (bif Nat.ble a 54 then (Nat.blt k 13) else (Nat.blt k 3)) else false))) else (bif Nat.ble a 68 then (bif Nat.ble a 63 then (bif Nat.ble a 60 then (bif Nat.ble a 59 then (Nat.blt k 1) else false) else (bif Nat.ble a 61 then (Nat.blt k 1) else (bif Nat.ble a 62 then false else (Nat.blt k 4)))) else (bif Nat.ble a 65 then false else (bif Nat.ble a 66 then false else (bif Nat.ble a 67 then false else (Nat.blt k 3))))) else false))) else (bif Nat.ble a 118 then (bif Nat.ble a 98 then (bif Nat.ble a 88 then (bif Nat.ble a 83 then (bif Nat.ble a 80 then (bif Nat.ble a 79 then false else (Nat.blt k 13)) else (bif Nat.ble a 81 then (Nat.blt k 3) else false)) else (bif Nat.ble a 85 then (bif Nat.ble a 84 then false else (Nat.blt k 1)) else (bif Nat.ble a 86 then false else (bif Nat.ble a 87 then (Nat.blt k 1) else false)))) else (bif Nat.ble a 93 then (bif Nat.ble a 90 then (bif Nat.ble a 89 then (Nat.blt k 4) else false) else false) else (bif Nat.ble a 95 then (bif Nat.ble a 94 then (Nat.blt k 3) else false) else false))) else (bif Nat.ble a 108 then (bif Nat.ble a 103 then false else (bif Nat.ble a 105 then false else (bif Nat.ble a 106 then (Nat.blt k 1) else (bif Nat.ble a 107 then false else (Nat.blt k 1))))) else (bif Nat.ble a 113 then (bif Nat.ble a 110 then (bif Nat.ble a 109 then false else (Nat.blt k 1)) else (bif Nat.ble a 111 then false else (bif Nat.ble a 112 then (Nat.blt k 1) else false))) else (bif Nat.ble a 115 then (bif Nat.ble a 114 then (Nat.blt k 1) else false) else (bif Nat.ble a 116 then (Nat.blt k 1) else (bif Nat.ble a 117 then false else (Nat.blt k 1))))))) else (bif Nat.ble a 138 then (bif Nat.ble a 128 then (bif Nat.ble a 123 then (bif Nat.ble a 120 then (bif Nat.ble a 119 then false else (Nat.blt k 1)) else (bif Nat.ble a 121 then false else (bif Nat.ble a 122 then (Nat.blt k 1) else false))) else (bif Nat.ble a 125 then (bif Nat.ble a 124 then (Nat.blt k 1) else false) else (bif Nat.ble a 126 then (Nat.blt k 1) else (bif Nat.ble a 127 then false else (Nat.blt k 1))))) else (bif Nat.ble a 133 then (bif Nat.ble a 130 then (bif Nat.ble a 129 then false else (Nat.blt k 1)) else (bif Nat.ble a 131 then false else (bif Nat.ble a 132 then (Nat.blt k 1) else false))) else (bif Nat.ble a 135 then (bif Nat.ble a 134 then (Nat.blt k 1) else false) else (bif Nat.ble a 136 then (Nat.blt k 1) else (bif Nat.ble a 137 then false else (Nat.blt k 1)))))) else (bif Nat.ble a 148 then (bif Nat.ble a 143 then (bif Nat.ble a 140 then (bif Nat.ble a 139 then false else (Nat.blt k 1)) else false) else false) else false))))
def rfT (a k : Nat) : Nat := (bif Nat.ble a 78 then (bif Nat.ble a 38 then (bif Nat.ble a 18 then (bif Nat.ble a 8 then (bif Nat.ble a 3 then (bif Nat.ble a 1 then (bif Nat.ble a 0 then 0 else 2) else (bif Nat.ble a 2 then 0 else 4)) else (bif Nat.ble a 5 then (bif Nat.ble a 4 then 0 else 6) else (bif Nat.ble a 6 then 0 else (bif Nat.ble a 7 then 8 else 0)))) else (bif Nat.ble a 13 then (bif Nat.ble a 10 then (bif Nat.ble a 9 then 10 else 0) else (bif Nat.ble a 11 then 12 else (bif Nat.ble a 12 then 0 else 14))) else (bif Nat.ble a 15 then (bif Nat.ble a 14 then 0 else 16) else (bif Nat.ble a 16 then 0 else (bif Nat.ble a 17 then 18 else 0))))) else (bif Nat.ble a 28 then (bif Nat.ble a 23 then (bif Nat.ble a 20 then (bif Nat.ble a 19 then 20 else 0) else (bif Nat.ble a 21 then 22 else (bif Nat.ble a 22 then 0 else 24))) else (bif Nat.ble a 25 then (bif Nat.ble a 24 then 0 else 26) else (bif Nat.ble a 26 then 0 else (bif Nat.ble a 27 then 28 else 0)))) else (bif Nat.ble a 33 then (bif Nat.ble a 30 then (bif Nat.ble a 29 then 30 else 0) else (bif Nat.ble a 31 then 32 else (bif Nat.ble a 32 then 0 else 34))) else (bif Nat.ble a 35 then (bif Nat.ble a 34 then 0 else 36) else (bif Nat.ble a 36 then 0 else (bif Nat.ble a 37 then 38 else 0)))))) else (bif Nat.ble a 58 then (bif Nat.ble a 48 then (bif Nat.ble a 43 then (bif Nat.ble a 40 then (bif Nat.ble a 39 then 40 else 0) else (bif Nat.ble a 41 then 42 else (bif Nat.ble a 42 then 0 else 44))) else (bif Nat.ble a 45 then (bif Nat.ble a 44 then 0 else (bif Nat.ble k 1 then (bif Nat.ble k 0 then 46 else 49) else (bif Nat.ble k 2 then 54 else 80))) else (bif Nat.ble a 46 then (bif Nat.ble k 0 then 47 else 48) else 0))) else (bif Nat.ble a 53 then (bif Nat.ble a 50 then (bif Nat.ble a 49 then (bif Nat.ble k 0 then 50 else (bif Nat.ble k 1 then 51 else 52)) else 0) else (bif Nat.ble a 51 then 0 else (bif Nat.ble a 52 then 53 else 0))) else (bif Nat.ble a 55 then (bif Nat.ble a 54 then (bif Nat.ble k 5 then (bif Nat.ble k 2 then (bif Nat.ble k 0 then 55 else (bif Nat.ble k 1 then 59 else 61)) else (bif Nat.ble k 3 then 63 else (bif Nat.ble k 4 then 68 else 72))) else (bif Nat.ble k 8 then (bif Nat.ble k 6 then 73 else (bif Nat.ble k 7 then 74 else 75)) else (bif Nat.ble k 10 then (bif Nat.ble k 9 then 76 else 77) else (bif Nat.ble k 11 then 78 else 79)))) else (bif Nat.ble k 0 then 56 else (bif Nat.ble k 1 then 57 else 58))) else 0))) else (bif Nat.ble a 68 then (bif Nat.ble a 63 then (bif Nat.ble a 60 then (bif Nat.ble a 59 then 60 else 0) else (bif Nat.ble a 61 then 62 else (bif Nat.ble a 62 then 0 else (bif Nat.ble k 1 then (bif Nat.ble k 0 then 64 else 65) else (bif Nat.ble k 2 then 66 else 67))))) else (bif Nat.ble a 65 then 0 else (bif Nat.ble a 66 then 0 else (bif Nat.ble a 67 then 0 else (bif Nat.ble k 0 then 69 else (bif Nat.ble k 1 then 70 else 71)))))) else 0))) else (bif Nat.ble a 118 then (bif Nat.ble a 98 then (bif Nat.ble a 88 then (bif Nat.ble a 83 then (bif Nat.ble a 80 then (bif Nat.ble a 79 then 0 else (bif Nat.ble k 5 then (bif Nat.ble k 2 then (bif Nat.ble k 0 then 81 else (bif Nat.ble k 1 then 85 else 87)) else (bif Nat.ble k 3 then 89 else (bif Nat.ble k 4 then 94 else 98))) else (bif Nat.ble k 8 then (bif Nat.ble k 6 then 99 else (bif Nat.ble k 7 then 100 else 101)) else (bif Nat.ble k 10 then (bif Nat.ble k 9 then 102 else 103) else (bif Nat.ble k 11 then 104 else 105))))) else (bif Nat.ble a 81 then (bif Nat.ble k 0 then 82 else (bif Nat.ble k 1 then 83 else 84)) else 0)) else (bif Nat.ble a 85 then (bif Nat.ble a 84 then 0 else 86) else (bif Nat.ble a 86 then 0 else (bif Nat.ble a 87 then 88 else 0)))) else (bif Nat.ble a 93 then (bif Nat.ble a 90 then (bif Nat.ble a 89 then (bif Nat.ble k 1 then (bif Nat.ble k 0 then 90 else 91) else (bif Nat.ble k 2 then 92 else 93)) else 0) else 0) else (bif Nat.ble a 95 then (bif Nat.ble a 94 then (bif Nat.ble k 0 then 95 else (bif Nat.ble k 1 then 96 else 97)) else 0) else 0))) else (bif Nat.ble a 108 then (bif Nat.ble a 103 then 0 else (bif Nat.ble a 105 then 0 else (bif Nat.ble a 106 then 107 else (bif Nat.ble a 107 then 0 else 109)))) else (bif Nat.ble a 113 then (bif Nat.ble a 110 then (bif Nat.ble a 109 then 0 else 111) else (bif Nat.ble a 111 then 0 else (bif Nat.ble a 112 then 113 else 0))) else (bif Nat.ble a 115 then (bif Nat.ble a 114 then 115 else 0) else (bif Nat.ble a 116 then 117 else (bif Nat.ble a 117 then 0 else 119)))))) else (bif Nat.ble a 138 then (bif Nat.ble a 128 then (bif Nat.ble a 123 then (bif Nat.ble a 120 then (bif Nat.ble a 119 then 0 else 121) else (bif Nat.ble a 121 then 0 else (bif Nat.ble a 122 then 123 else 0))) else (bif Nat.ble a 125 then (bif Nat.ble a 124 then 125 else 0) else (bif Nat.ble a 126 then 127 else (bif Nat.ble a 127 then 0 else 129)))) else (bif Nat.ble a 133 then (bif Nat.ble a 130 then (bif Nat.ble a 129 then 0 else 131) else (bif Nat.ble a 131 then 0 else (bif Nat.ble a 132 then 133 else 0))) else (bif Nat.ble a 135 then (bif Nat.ble a 134 then 135 else 0) else (bif Nat.ble a 136 then 137 else (bif Nat.ble a 137 then 0 else 139))))) else (bif Nat.ble a 148 then (bif Nat.ble a 143 then (bif Nat.ble a 140 then (bif Nat.ble a 139 then 0 else 141) else 0) else 0) else 0))))
def mm (I : IM) (D : DY) : PM := (dZ D, dL D, fun a => bif Nat.ble nST a then dK D a else kdT a, fun a => bif Nat.ble nST a then dN D a else (bif Nat.beq a 0 then dN D 0 else lnT a), I, fun a k => bif isFn a k then some (rfT a k) else dR D a k)
def wI (M : PM) (I : IM) : PM := (pSz M, pSl M, pKd M, pLn M, I, pR M)
theorem mmK {I : IM} {D : DY} {a : Nat} (h : nST ≤ a) : pKd (mm I D) a = dK D a := by
  show (bif Nat.ble nST a then dK D a else kdT a) = _
  rw [Nat.ble_eq_true_of_le h]
  rfl
theorem mmN {I : IM} {D : DY} {a : Nat} (h : nST ≤ a) : pLn (mm I D) a = dN D a := by
  show (bif Nat.ble nST a then dN D a else _) = _
  rw [Nat.ble_eq_true_of_le h]
  rfl
theorem isFn_new {a k : Nat} (h : nST ≤ a) : isFn a k = false := by
  unfold isFn
  rw [Nat.ble_eq_true_of_le h]
  rfl
theorem mmR {I : IM} {D : DY} {a k : Nat} (h : isFn a k = false) : pR (mm I D) a k = dR D a k := by
  show (bif isFn a k then _ else _) = _
  rw [h]
  rfl
def tsP (c : Prop) [i : Decidable c] (r : Prop) : Prop := @ite _ c i r False
def brP (c : Prop) [i : Decidable c] (a b : Prop) : Prop := @ite _ c i a b
def rtP (k : Nat) (v : Int32) (r : Prop) : Prop := @ite _ (rOk k v) (rDec k v) r False
theorem tsP_i {c : Prop} [i : Decidable c] {r : Prop} (h : c) (hr : r) : tsP c r := by
  unfold tsP
  rwa [if_pos h]
theorem brP_i {c : Prop} [i : Decidable c] {a b : Prop} (h : c → a) (h2 : ¬ c → b) : brP c a b := by
  unfold brP
  by_cases hc : c
  · rw [if_pos hc]
    exact h hc
  · rw [if_neg hc]
    exact h2 hc
theorem rtP_i {k : Nat} {v : Int32} {r : Prop} (h : rOk k v) (hr : r) : rtP k v r := by
  unfold rtP
  rwa [if_pos h]
theorem onR_i {r : Option Nat} {k : Nat → Prop} {a : Nat} (h : r = some a) (hk : k a) : onR False r k := by
  subst h
  exact hk
def CAN (M : PM) (K : IM → DY → Prop) : Prop := ∃ I D, M = mm I D ∧ K I D
def astP (M : PM) (a : Nat) (v : Option Nat) (r : Prop) : Prop := @ite _ (∀ b, v = some b → pKd M b = eCl (pKd M a)) (match v with
          | none => isTrue (fun _ h => nomatch h)
          | some b => decidable_of_iff (pKd M b = eCl (pKd M a)) ⟨fun h _ e => by cases e; exact h, fun h => h b rfl⟩) r False
theorem astP_i {M : PM} {a : Nat} {v : Option Nat} {r : Prop} (h : ∀ b, v = some b → pKd M b = eCl (pKd M a)) (hr : r) : astP M a v r := by
  unfold astP
  rwa [if_pos h]
def qV (M : PM) (K : IM → Prop) : Option PV → PM → Prop := fun v M2 => ∃ I, v = none ∧ M2 = wI M I ∧ K I
def qI (M : PM) (K : Int32 → IM → Prop) : Option PV → PM → Prop := fun v M2 => ∃ x I, v = some (vI x) ∧ M2 = wI M I ∧ K x I
def qL (M : PM) (K : Int64 → IM → Prop) : Option PV → PM → Prop := fun v M2 => ∃ x I, v = some (vL x) ∧ M2 = wI M I ∧ K x I
def qR (M : PM) (K : Option Nat → IM → Prop) : Option PV → PM → Prop := fun v M2 => ∃ x I, v = some (vR x) ∧ M2 = wI M I ∧ K x I
def aV (K : IM → DY → Prop) : Option PV → PM → Prop := fun v M2 => ∃ I D, v = none ∧ M2 = mm I D ∧ K I D
def aI (K : Int32 → IM → DY → Prop) : Option PV → PM → Prop := fun v M2 => ∃ x I D, v = some (vI x) ∧ M2 = mm I D ∧ K x I D
def aL (K : Int64 → IM → DY → Prop) : Option PV → PM → Prop := fun v M2 => ∃ x I D, v = some (vL x) ∧ M2 = mm I D ∧ K x I D
def aR (K : Option Nat → IM → DY → Prop) : Option PV → PM → Prop := fun v M2 => ∃ x I D, v = some (vR x) ∧ M2 = mm I D ∧ K x I D
def CV (d y : Nat) (as : List PV) (M : PM) (K : IM → Prop) : Prop := Mt GG d y as M (qV M K)
def CI (d y : Nat) (as : List PV) (M : PM) (K : Int32 → IM → Prop) : Prop := Mt GG d y as M (qI M K)
def CL (d y : Nat) (as : List PV) (M : PM) (K : Int64 → IM → Prop) : Prop := Mt GG d y as M (qL M K)
def CR (d y : Nat) (as : List PV) (M : PM) (K : Option Nat → IM → Prop) : Prop := Mt GG d y as M (qR M K)
def AV (d y : Nat) (as : List PV) (M : PM) (K : IM → DY → Prop) : Prop := Mt GG d y as M (aV K)
def AI (d y : Nat) (as : List PV) (M : PM) (K : Int32 → IM → DY → Prop) : Prop := Mt GG d y as M (aI K)
def AL (d y : Nat) (as : List PV) (M : PM) (K : Int64 → IM → DY → Prop) : Prop := Mt GG d y as M (aL K)
def AR (d y : Nat) (as : List PV) (M : PM) (K : Option Nat → IM → DY → Prop) : Prop := Mt GG d y as M (aR K)
theorem qV_i {I I2 : IM} {D : DY} {K : IM → Prop} (h : K I2) : qV (mm I D) K none (mm I2 D) := ⟨I2, rfl, rfl, h⟩
theorem qI_i {I I2 : IM} {D : DY} {K : Int32 → IM → Prop} {x : Int32} (h : K x I2) : qI (mm I D) K (some (vI x)) (mm I2 D) := ⟨x, I2, rfl, rfl, h⟩
theorem qL_i {I I2 : IM} {D : DY} {K : Int64 → IM → Prop} {x : Int64} (h : K x I2) : qL (mm I D) K (some (vL x)) (mm I2 D) := ⟨x, I2, rfl, rfl, h⟩
theorem qR_i {I I2 : IM} {D : DY} {K : Option Nat → IM → Prop} {x : Option Nat} (h : K x I2) : qR (mm I D) K (some (vR x)) (mm I2 D) := ⟨x, I2, rfl, rfl, h⟩
theorem aV_i {I2 : IM} {D : DY} {K : IM → DY → Prop} {M : PM} (hM : M = mm I2 D) (h : K I2 D) : aV K none M := ⟨I2, D, rfl, hM, h⟩
theorem aI_i {I2 : IM} {D : DY} {K : Int32 → IM → DY → Prop} {x : Int32} {M : PM} (hM : M = mm I2 D) (h : K x I2 D) : aI K (some (vI x)) M := ⟨x, I2, D, rfl, hM, h⟩
theorem aL_i {I2 : IM} {D : DY} {K : Int64 → IM → DY → Prop} {x : Int64} {M : PM} (hM : M = mm I2 D) (h : K x I2 D) : aL K (some (vL x)) M := ⟨x, I2, D, rfl, hM, h⟩
theorem aR_i {I2 : IM} {D : DY} {K : Option Nat → IM → DY → Prop} {x : Option Nat} {M : PM} (hM : M = mm I2 D) (h : K x I2 D) : aR K (some (vR x)) M := ⟨x, I2, D, rfl, hM, h⟩
def callC (al : Bool) (rk d y : Nat) (as : List PV) (M : PM) (k : List PV → PM → Prop) : Prop := match al with
  | false => (match rk with
    | 0 => CV d y as M (fun I => k [] (wI M I))
    | 5 => CL d y as M (fun x I => k [vL x] (wI M I))
    | 6 => CR d y as M (fun x I => k [vR x] (wI M I))
    | _ => CI d y as M (fun x I => k [vI x] (wI M I)))
  | true => (match rk with
    | 0 => AV d y as M (fun I D => k [] (mm I D))
    | 5 => AL d y as M (fun x I D => k [vL x] (mm I D))
    | 6 => AR d y as M (fun x I D => k [vR x] (mm I D))
    | _ => AI d y as M (fun x I D => k [vI x] (mm I D)))
theorem callC_ok {al : Bool} {rk d y : Nat} {as : List PV} {M : PM} {k : List PV → PM → Prop} (h : callC al rk d y as M k) : Mt GG d y as M (fun v M2 => k v.toList M2) := by
  unfold callC at h
  split at h
  · split at h
    · exact Mt.mono h (fun v M' ⟨I, e1, e2, hk⟩ => by subst e1 e2; exact hk)
    · exact Mt.mono h (fun v M' ⟨x, I, e1, e2, hk⟩ => by subst e1 e2; exact hk)
    · exact Mt.mono h (fun v M' ⟨x, I, e1, e2, hk⟩ => by subst e1 e2; exact hk)
    · exact Mt.mono h (fun v M' ⟨x, I, e1, e2, hk⟩ => by subst e1 e2; exact hk)
  · split at h
    · exact Mt.mono h (fun v M' ⟨I, D, e1, e2, hk⟩ => by subst e1 e2; exact hk)
    · exact Mt.mono h (fun v M' ⟨x, I, D, e1, e2, hk⟩ => by subst e1 e2; exact hk)
    · exact Mt.mono h (fun v M' ⟨x, I, D, e1, e2, hk⟩ => by subst e1 e2; exact hk)
    · exact Mt.mono h (fun v M' ⟨x, I, D, e1, e2, hk⟩ => by subst e1 e2; exact hk)
def opC (mc : Nat → Nat) (nx : Nat → List PV → List PV → PM → Prop) (rt : Option PV → PM → Prop) (cl : Nat → List PV → PM → Nat → List PV → List PV → Prop) (d rk : Nat) (e : PE) (pc : Nat) (ls st : List PV) (M : PM) : Prop :=
  op (ρ := Prop) False (fun c i r => @tsP c i r) (fun c i a b => @brP c i a b) nx rt cl XF mc d rk e pc ls st M
section
variable {nx : Nat → List PV → List PV → PM → Prop} {rt : Option PV → PM → Prop} {cl : Nat → List PV → PM → Nat → List PV → List PV → Prop}
theorem ct_ts {c : Prop} {i : Decidable c} {p : Prop} {o : OUT} (h : p → satO nx rt cl o) (hp : @tsP c i p) : satO nx rt cl (@ite _ c i o none) := by
  unfold tsP at hp
  by_cases hc : c
  · rw [if_pos hc] at hp ⊢
    exact h hp
  · rw [if_neg hc] at hp
    exact hp.elim
theorem ct_br {c : Prop} {i : Decidable c} {p q : Prop} {o o2 : OUT} (h : p → satO nx rt cl o) (h2 : q → satO nx rt cl o2) (hp : @brP c i p q) : satO nx rt cl (@ite _ c i o o2) := by
  unfold brP at hp
  by_cases hc : c
  · rw [if_pos hc] at hp ⊢
    exact h hp
  · rw [if_neg hc] at hp ⊢
    exact h2 hp
theorem ct_tsw {ls st : List PV} {M : PM} {x : Int32} {dflt : Nat} : ∀ (l : List Nat) (lo : Int32), tsw (ρ := Prop) (fun c i a b => @brP c i a b) (fun t => nx t ls st M) x dflt lo l →
    satO nx rt cl (tsw (ρ := OUT) (fun c i a b => @ite _ c i a b) (fun t => some (.inl (t, ls, st, M))) x dflt lo l)
  | [], _, h => h
  | _ :: ts, lo, h => ct_br (fun h => h) (fun h => ct_tsw ts (lo + 1) h) h
set_option maxHeartbeats 4000000 in
theorem opC_sat (mc : Nat → Nat) (d rk : Nat) (e : PE) (pc : Nat) (ls st : List PV) (M : PM) (h : opC mc nx rt cl d rk e pc ls st M) : satO nx rt cl (opF XF mc d rk e pc ls st M) := by
  unfold opC at h
  unfold opF
  unfold op at h ⊢
  obtain ⟨i, a, b, z, l⟩ := e
  cases i
  all_goals first
    | exact h.elim
    | exact h
    | (dsimp only at h ⊢
       repeat' split at h
       all_goals first
         | exact h.elim
         | exact h
         | exact ct_br (fun h => h) (fun h => h) h
         | exact ct_ts (fun h => h) h
         | exact ct_ts (fun h => ct_ts (fun h => h) h) h
         | exact ct_tsw _ _ h
         | exact sat_onR (fun a h => h) h
         | exact sat_onR (fun a h => ct_ts (fun h => h) h) h
         | exact sat_onR (fun a h => ct_ts (fun h => ct_ts (fun h => h) h) h) h
         | exact sat_onR (fun a h => ct_ts (fun h => ct_ts (fun h => ct_ts (fun h => h) h) h) h) h
         | exact sat_onR (fun a h => sat_onR (fun b h => ct_ts (fun h => ct_ts (fun h => h) h) h) h) h
         | (refine sat_onR (fun a h => ct_ts (fun h => ?_) h) h
            repeat' split at h
            all_goals first
              | exact h.elim
              | exact h
              | exact ct_ts (fun h => h) h
              | exact ct_ts (fun h => ct_ts (fun h => h) h) h
              | (refine ct_ts (fun h => ?_) h
                 repeat' split at h
                 all_goals first
                   | exact h.elim
                   | exact h
                   | exact ct_ts (fun h => h) h)))
end
def isAlE (e : PE) : Bool := match e.1 with
  | .new _ => true
  | .newarray _ => true
  | .anewarray _ => true
  | .multianewarray _ _ => true
  | .invokevirtual _ => (match e.2.2.2.2 with
    | [] => false
    | _ :: _ => true)
  | _ => false
def mcT (y : Nat) : Nat := bif Nat.ble 269 y then 99 else (bif Nat.ble y 133 then (bif Nat.ble y 66 then (bif Nat.ble y 32 then (bif Nat.ble y 15 then (bif Nat.ble y 7 then (bif Nat.ble y 3 then (bif Nat.ble y 1 then (bif Nat.ble y 0 then 11 else 10) else (bif Nat.ble y 2 then 0 else 1)) else (bif Nat.ble y 5 then (bif Nat.ble y 4 then 9 else 5) else (bif Nat.ble y 6 then 3 else 13))) else (bif Nat.ble y 11 then (bif Nat.ble y 9 then (bif Nat.ble y 8 then 13 else 8) else (bif Nat.ble y 10 then 17 else 11)) else (bif Nat.ble y 13 then (bif Nat.ble y 12 then 11 else 10) else 11))) else (bif Nat.ble y 23 then (bif Nat.ble y 19 then 10 else (bif Nat.ble y 21 then 13 else (bif Nat.ble y 22 then 14 else 10))) else (bif Nat.ble y 27 then (bif Nat.ble y 25 then (bif Nat.ble y 24 then 10 else 2) else 10) else 10))) else (bif Nat.ble y 49 then (bif Nat.ble y 40 then (bif Nat.ble y 36 then (bif Nat.ble y 34 then 10 else 13) else (bif Nat.ble y 38 then 14 else 16)) else (bif Nat.ble y 44 then (bif Nat.ble y 42 then (bif Nat.ble y 41 then 14 else 10) else (bif Nat.ble y 43 then 17 else 4)) else (bif Nat.ble y 46 then (bif Nat.ble y 45 then 10 else 9) else (bif Nat.ble y 47 then 9 else (bif Nat.ble y 48 then 5 else 9))))) else (bif Nat.ble y 57 then (bif Nat.ble y 53 then (bif Nat.ble y 51 then 1 else (bif Nat.ble y 52 then 2 else 5)) else (bif Nat.ble y 55 then (bif Nat.ble y 54 then 9 else 3) else 5)) else (bif Nat.ble y 61 then (bif Nat.ble y 59 then 1 else (bif Nat.ble y 60 then 1 else 8)) else (bif Nat.ble y 63 then (bif Nat.ble y 62 then 8 else 11) else (bif Nat.ble y 64 then 10 else 0)))))) else (bif Nat.ble y 99 then (bif Nat.ble y 82 then (bif Nat.ble y 74 then (bif Nat.ble y 70 then (bif Nat.ble y 68 then (bif Nat.ble y 67 then 9 else 0) else (bif Nat.ble y 69 then 1 else 0)) else (bif Nat.ble y 72 then 0 else (bif Nat.ble y 73 then 11 else 9))) else (bif Nat.ble y 78 then (bif Nat.ble y 76 then (bif Nat.ble y 75 then 3 else 9) else (bif Nat.ble y 77 then 1 else 9)) else (bif Nat.ble y 80 then (bif Nat.ble y 79 then 3 else 5) else (bif Nat.ble y 81 then 5 else 3)))) else (bif Nat.ble y 90 then (bif Nat.ble y 86 then (bif Nat.ble y 84 then 4 else (bif Nat.ble y 85 then 4 else 3)) else (bif Nat.ble y 88 then 11 else (bif Nat.ble y 89 then 11 else 5))) else (bif Nat.ble y 94 then (bif Nat.ble y 92 then (bif Nat.ble y 91 then 11 else 8) else 8) else 11))) else (bif Nat.ble y 116 then (bif Nat.ble y 107 then 11 else (bif Nat.ble y 111 then (bif Nat.ble y 109 then 11 else (bif Nat.ble y 110 then 11 else 10)) else (bif Nat.ble y 113 then 10 else (bif Nat.ble y 114 then 7 else (bif Nat.ble y 115 then 11 else 7))))) else (bif Nat.ble y 124 then (bif Nat.ble y 120 then (bif Nat.ble y 118 then (bif Nat.ble y 117 then 11 else 9) else 9) else (bif Nat.ble y 122 then 7 else (bif Nat.ble y 123 then 7 else 11))) else (bif Nat.ble y 128 then (bif Nat.ble y 126 then (bif Nat.ble y 125 then 11 else 7) else (bif Nat.ble y 127 then 15 else 9)) else (bif Nat.ble y 130 then 7 else (bif Nat.ble y 131 then 11 else (bif Nat.ble y 132 then 11 else 10)))))))) else (bif Nat.ble y 200 then (bif Nat.ble y 166 then (bif Nat.ble y 149 then (bif Nat.ble y 141 then (bif Nat.ble y 137 then (bif Nat.ble y 135 then (bif Nat.ble y 134 then 6 else 11) else 9) else (bif Nat.ble y 139 then (bif Nat.ble y 138 then 6 else 2) else 11)) else 11) else (bif Nat.ble y 157 then 11 else (bif Nat.ble y 161 then 11 else (bif Nat.ble y 163 then (bif Nat.ble y 162 then 11 else 5) else (bif Nat.ble y 164 then 9 else (bif Nat.ble y 165 then 8 else 9)))))) else (bif Nat.ble y 183 then (bif Nat.ble y 174 then 12 else (bif Nat.ble y 178 then 12 else (bif Nat.ble y 180 then 12 else (bif Nat.ble y 181 then 12 else 13)))) else (bif Nat.ble y 191 then (bif Nat.ble y 187 then (bif Nat.ble y 185 then (bif Nat.ble y 184 then 13 else 15) else (bif Nat.ble y 186 then 15 else 17)) else (bif Nat.ble y 189 then 17 else (bif Nat.ble y 190 then 17 else 20))) else 18))) else (bif Nat.ble y 234 then (bif Nat.ble y 217 then (bif Nat.ble y 208 then (bif Nat.ble y 204 then (bif Nat.ble y 202 then 18 else (bif Nat.ble y 203 then 18 else 11)) else 11) else 11) else 11) else (bif Nat.ble y 251 then 11 else (bif Nat.ble y 259 then 11 else (bif Nat.ble y 263 then 11 else (bif Nat.ble y 265 then 11 else (bif Nat.ble y 266 then 11 else (bif Nat.ble y 267 then 11 else 18)))))))))
def rkT (y : Nat) : Nat := bif Nat.ble 269 y then 0 else (bif Nat.ble y 133 then (bif Nat.ble y 66 then (bif Nat.ble y 32 then (bif Nat.ble y 15 then (bif Nat.ble y 7 then (bif Nat.ble y 3 then 0 else (bif Nat.ble y 5 then 0 else (bif Nat.ble y 6 then 0 else 1))) else (bif Nat.ble y 11 then (bif Nat.ble y 9 then (bif Nat.ble y 8 then 4 else 0) else (bif Nat.ble y 10 then 0 else 1)) else (bif Nat.ble y 13 then (bif Nat.ble y 12 then 2 else 1) else (bif Nat.ble y 14 then 1 else 2)))) else (bif Nat.ble y 23 then (bif Nat.ble y 19 then (bif Nat.ble y 17 then (bif Nat.ble y 16 then 0 else 6) else 1) else (bif Nat.ble y 21 then (bif Nat.ble y 20 then 3 else 2) else (bif Nat.ble y 22 then 3 else 2))) else (bif Nat.ble y 27 then (bif Nat.ble y 25 then 0 else (bif Nat.ble y 26 then 0 else 1)) else (bif Nat.ble y 29 then (bif Nat.ble y 28 then 6 else 0) else (bif Nat.ble y 30 then 0 else (bif Nat.ble y 31 then 2 else 1)))))) else (bif Nat.ble y 49 then (bif Nat.ble y 40 then (bif Nat.ble y 36 then (bif Nat.ble y 34 then 0 else 1) else (bif Nat.ble y 38 then (bif Nat.ble y 37 then 1 else 2) else 1)) else (bif Nat.ble y 44 then (bif Nat.ble y 42 then (bif Nat.ble y 41 then 1 else 6) else (bif Nat.ble y 43 then 6 else 0)) else (bif Nat.ble y 46 then 1 else (bif Nat.ble y 47 then 0 else 1)))) else (bif Nat.ble y 57 then (bif Nat.ble y 53 then 1 else (bif Nat.ble y 55 then (bif Nat.ble y 54 then 0 else 1) else 0)) else (bif Nat.ble y 61 then 0 else (bif Nat.ble y 63 then (bif Nat.ble y 62 then 0 else 1) else 0))))) else (bif Nat.ble y 99 then (bif Nat.ble y 82 then (bif Nat.ble y 74 then (bif Nat.ble y 70 then (bif Nat.ble y 68 then (bif Nat.ble y 67 then 1 else 0) else (bif Nat.ble y 69 then 0 else 6)) else (bif Nat.ble y 72 then (bif Nat.ble y 71 then 1 else 0) else 1)) else (bif Nat.ble y 78 then (bif Nat.ble y 76 then (bif Nat.ble y 75 then 1 else 0) else 0) else (bif Nat.ble y 80 then (bif Nat.ble y 79 then 0 else 1) else (bif Nat.ble y 81 then 2 else 0)))) else (bif Nat.ble y 90 then (bif Nat.ble y 86 then 1 else (bif Nat.ble y 88 then 1 else (bif Nat.ble y 89 then 2 else 1))) else (bif Nat.ble y 94 then (bif Nat.ble y 92 then 1 else (bif Nat.ble y 93 then 1 else 2)) else (bif Nat.ble y 96 then (bif Nat.ble y 95 then 1 else 2) else (bif Nat.ble y 97 then 2 else 1))))) else (bif Nat.ble y 116 then (bif Nat.ble y 107 then (bif Nat.ble y 103 then 2 else (bif Nat.ble y 105 then 2 else (bif Nat.ble y 106 then 1 else 2))) else (bif Nat.ble y 111 then (bif Nat.ble y 109 then (bif Nat.ble y 108 then 2 else 1) else (bif Nat.ble y 110 then 2 else 6)) else (bif Nat.ble y 113 then (bif Nat.ble y 112 then 1 else 6) else (bif Nat.ble y 114 then 0 else (bif Nat.ble y 115 then 1 else 6))))) else (bif Nat.ble y 124 then (bif Nat.ble y 120 then (bif Nat.ble y 118 then (bif Nat.ble y 117 then 1 else 6) else (bif Nat.ble y 119 then 1 else 0)) else (bif Nat.ble y 122 then (bif Nat.ble y 121 then 0 else 2) else 1)) else (bif Nat.ble y 128 then (bif Nat.ble y 126 then 1 else (bif Nat.ble y 127 then 1 else 2)) else (bif Nat.ble y 130 then (bif Nat.ble y 129 then 2 else 1) else (bif Nat.ble y 131 then 1 else (bif Nat.ble y 132 then 1 else 6)))))))) else (bif Nat.ble y 200 then (bif Nat.ble y 166 then (bif Nat.ble y 149 then (bif Nat.ble y 141 then (bif Nat.ble y 137 then (bif Nat.ble y 135 then (bif Nat.ble y 134 then 0 else 1) else (bif Nat.ble y 136 then 1 else 2)) else (bif Nat.ble y 139 then (bif Nat.ble y 138 then 2 else 1) else 2)) else 2) else (bif Nat.ble y 157 then 2 else (bif Nat.ble y 161 then (bif Nat.ble y 159 then 2 else (bif Nat.ble y 160 then 2 else 1)) else 1))) else (bif Nat.ble y 183 then (bif Nat.ble y 174 then (bif Nat.ble y 170 then (bif Nat.ble y 168 then (bif Nat.ble y 167 then 0 else 6) else 6) else (bif Nat.ble y 172 then (bif Nat.ble y 171 then 1 else 0) else 6)) else (bif Nat.ble y 178 then (bif Nat.ble y 176 then (bif Nat.ble y 175 then 0 else 1) else (bif Nat.ble y 177 then 2 else 0)) else (bif Nat.ble y 180 then (bif Nat.ble y 179 then 0 else 6) else (bif Nat.ble y 181 then 1 else 0)))) else (bif Nat.ble y 191 then (bif Nat.ble y 187 then (bif Nat.ble y 185 then (bif Nat.ble y 184 then 0 else 1) else (bif Nat.ble y 186 then 1 else 6)) else (bif Nat.ble y 189 then 6 else (bif Nat.ble y 190 then 0 else 1))) else (bif Nat.ble y 195 then (bif Nat.ble y 193 then (bif Nat.ble y 192 then 1 else 2) else (bif Nat.ble y 194 then 2 else 6)) else (bif Nat.ble y 197 then 1 else (bif Nat.ble y 198 then 1 else (bif Nat.ble y 199 then 1 else 6))))))) else 2))
def alT (y : Nat) : Bool := bif Nat.ble 269 y then true else (bif Nat.ble y 133 then (bif Nat.ble y 66 then (bif Nat.ble y 32 then (bif Nat.ble y 15 then (bif Nat.ble y 7 then (bif Nat.ble y 3 then true else (bif Nat.ble y 5 then true else (bif Nat.ble y 6 then true else false))) else (bif Nat.ble y 11 then (bif Nat.ble y 9 then (bif Nat.ble y 8 then false else true) else false) else (bif Nat.ble y 13 then false else (bif Nat.ble y 14 then true else false)))) else (bif Nat.ble y 23 then (bif Nat.ble y 19 then (bif Nat.ble y 17 then (bif Nat.ble y 16 then false else true) else false) else false) else (bif Nat.ble y 27 then (bif Nat.ble y 25 then (bif Nat.ble y 24 then false else true) else false) else (bif Nat.ble y 29 then (bif Nat.ble y 28 then true else false) else false)))) else (bif Nat.ble y 49 then (bif Nat.ble y 40 then false else (bif Nat.ble y 44 then (bif Nat.ble y 42 then false else true) else false)) else (bif Nat.ble y 57 then false else (bif Nat.ble y 61 then false else (bif Nat.ble y 63 then (bif Nat.ble y 62 then false else true) else (bif Nat.ble y 64 then true else (bif Nat.ble y 65 then false else true))))))) else (bif Nat.ble y 99 then (bif Nat.ble y 82 then (bif Nat.ble y 74 then (bif Nat.ble y 70 then false else (bif Nat.ble y 72 then false else true)) else (bif Nat.ble y 78 then (bif Nat.ble y 76 then (bif Nat.ble y 75 then true else false) else false) else false)) else false) else (bif Nat.ble y 116 then (bif Nat.ble y 107 then false else (bif Nat.ble y 111 then (bif Nat.ble y 109 then (bif Nat.ble y 108 then false else true) else (bif Nat.ble y 110 then false else true)) else (bif Nat.ble y 113 then (bif Nat.ble y 112 then false else true) else true))) else (bif Nat.ble y 124 then (bif Nat.ble y 120 then false else (bif Nat.ble y 122 then false else (bif Nat.ble y 123 then false else true))) else (bif Nat.ble y 128 then (bif Nat.ble y 126 then (bif Nat.ble y 125 then true else false) else (bif Nat.ble y 127 then false else true)) else (bif Nat.ble y 130 then false else (bif Nat.ble y 131 then false else true))))))) else (bif Nat.ble y 200 then (bif Nat.ble y 166 then (bif Nat.ble y 149 then (bif Nat.ble y 141 then (bif Nat.ble y 137 then (bif Nat.ble y 135 then (bif Nat.ble y 134 then true else false) else false) else false) else false) else false) else (bif Nat.ble y 183 then (bif Nat.ble y 174 then (bif Nat.ble y 170 then true else (bif Nat.ble y 172 then (bif Nat.ble y 171 then false else true) else true)) else (bif Nat.ble y 178 then (bif Nat.ble y 176 then (bif Nat.ble y 175 then true else false) else false) else (bif Nat.ble y 180 then false else (bif Nat.ble y 181 then false else true)))) else (bif Nat.ble y 191 then (bif Nat.ble y 187 then (bif Nat.ble y 185 then false else (bif Nat.ble y 186 then false else true)) else (bif Nat.ble y 189 then true else false)) else (bif Nat.ble y 195 then (bif Nat.ble y 193 then false else true) else (bif Nat.ble y 197 then false else (bif Nat.ble y 198 then false else (bif Nat.ble y 199 then false else true))))))) else (bif Nat.ble y 234 then (bif Nat.ble y 217 then (bif Nat.ble y 208 then (bif Nat.ble y 204 then (bif Nat.ble y 202 then (bif Nat.ble y 201 then false else true) else (bif Nat.ble y 203 then true else false)) else false) else false) else false) else (bif Nat.ble y 251 then false else (bif Nat.ble y 259 then false else (bif Nat.ble y 263 then false else (bif Nat.ble y 265 then false else (bif Nat.ble y 266 then false else (bif Nat.ble y 267 then false else true)))))))))
theorem mcT_eq : mcT = fun y => rcL.getD y 99 := by
  funext y
  by_cases h : 269 ≤ y
  · unfold mcT
    rw [Nat.ble_eq_true_of_le h, List.getD_eq_getElem?_getD, List.getElem?_eq_none (by rw [show rcL.length = 269 by decide +kernel]; exact h)]
    rfl
  · have : (List.range 269).all (fun y => Nat.beq (mcT y) (rcL.getD y 99)) = true := by decide +kernel
    exact Nat.eq_of_beq_eq_true (List.all_eq_true.mp this y (List.mem_range.mpr (Nat.not_le.mp h)))
theorem rkT_eq (y : Nat) : rkT y = rkL.getD y 0 := by
  by_cases h : 269 ≤ y
  · unfold rkT
    rw [Nat.ble_eq_true_of_le h, List.getD_eq_getElem?_getD, List.getElem?_eq_none (by rw [show rkL.length = 269 by decide +kernel]; exact h)]
    rfl
  · have : (List.range 269).all (fun y => Nat.beq (rkT y) (rkL.getD y 0)) = true := by decide +kernel
    exact Nat.eq_of_beq_eq_true (List.all_eq_true.mp this y (List.mem_range.mpr (Nat.not_le.mp h)))
/-- some steps at once, up to the places that 'cut' names -/
def runC (al : Nat → Bool) (cut : Nat → Bool) (d y : Nat) (Q : Option PV → PM → Prop) : Nat → Nat → List PV → List PV → PM → Prop
  | 0, pc, ls, st, M => Wp GG d y pc ls st M Q
  | k + 1, pc, ls, st, M => match prog y pc with
    | none => False
    | some e => opC mcT (fun pc' ls' st' M' => match isAlE e with
        | true => CAN M' (fun I D => match cut pc' with
          | true => Wp GG d y pc' ls' st' (mm I D) Q
          | false => runC al cut d y Q k pc' ls' st' (mm I D))
        | false => (match cut pc' with
          | true => Wp GG d y pc' ls' st' M' Q
          | false => runC al cut d y Q k pc' ls' st' M')) Q
        (fun y' as M' pc' ls' st' => match d with
        | 0 => False
        | d' + 1 => callC (al y') (rkT y') d' y' as M' (fun vs M2 => match cut pc' with
          | true => Wp GG d y pc' ls' (vs ++ st') M2 Q
          | false => runC al cut d y Q k pc' ls' (vs ++ st') M2)) d (rkT y) e pc ls st M
theorem runC_wp (al : Nat → Bool) (cut : Nat → Bool) (d y : Nat) (Q : Option PV → PM → Prop) : ∀ (k pc : Nat) (ls st : List PV) (M : PM), runC al cut d y Q k pc ls st M → Wp GG d y pc ls st M Q := by
  intro k
  induction k with
  | zero => intro pc ls st M h; exact h
  | succ k ih =>
    intro pc ls st M h
    unfold runC at h
    cases hc : prog y pc with
    | none => rw [hc] at h; exact h.elim
    | some e =>
      rw [hc] at h
      rw [mcT_eq, rkT_eq] at h
      refine Wp_sat (G := GG) hc (satO_mono (opC_sat _ _ _ _ _ _ _ _ h) (fun pc' ls' st' M' h => ?_) (fun _ _ h => h) (fun y' as M' pc' ls' st' h => ?_))
      · try dsimp only at h
        split at h
        · obtain ⟨I, D, rfl, h⟩ := h
          split at h
          · exact h
          · exact ih _ _ _ _ h
        · split at h
          · exact h
          · exact ih _ _ _ _ h
      · cases d with
        | zero => exact h
        | succ d' =>
          refine Mt.mono (show Mt GG d' y' as M' _ from callC_ok h) (fun v M2 h => ?_)
          try dsimp only at h
          split at h
          · exact h
          · exact ih _ _ _ _ h
theorem runC_m {cut : Nat → Bool} {d y : Nat} {Q : Option PV → PM → Prop} (k : Nat) {as : List PV} {M : PM} (h : runC alT cut d y Q k 0 (locE GG y as) [] M) : Mt GG d y as M Q := runC_wp _ _ _ _ _ _ _ _ _ _ h
theorem runC_p {cut : Nat → Bool} {d y : Nat} {Q : Option PV → PM → Prop} (k : Nat) {pc : Nat} {ls st : List PV} {M : PM} (h : runC alT cut d y Q k pc ls st M) : Wp GG d y pc ls st M Q := runC_wp _ _ _ _ _ _ _ _ _ _ h
