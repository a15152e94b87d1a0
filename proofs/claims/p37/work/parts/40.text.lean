/-! Texts of events. -/
def z64 (n : Int) : Int64 := Int64.ofInt n
theorem z64_toInt {n : Int} (h1 : -9223372036854775808 ≤ n) (h2 : n ≤ 9223372036854775807) : (z64 n).toInt = n := by
  unfold z64
  rw [Int64.toInt_ofInt]
  show n.bmod 18446744073709551616 = n
  exact Int.bmod_eq_of_le (by omega) (by omega)
theorem z64_lt {a b : Int} (h1 : -9223372036854775808 ≤ a) (h2 : a ≤ 9223372036854775807) (h3 : -9223372036854775808 ≤ b) (h4 : b ≤ 9223372036854775807) : z64 a < z64 b ↔ a < b := by
  rw [Int64.lt_iff_toInt_lt, z64_toInt h1 h2, z64_toInt h3 h4]
theorem z64_inj {a b : Int} (h1 : -9223372036854775808 ≤ a) (h2 : a ≤ 9223372036854775807) (h3 : -9223372036854775808 ≤ b) (h4 : b ≤ 9223372036854775807) : z64 a = z64 b ↔ a = b := by
  refine ⟨fun h => ?_, fun h => by rw [h]⟩
  have := congrArg Int64.toInt h
  rwa [z64_toInt h1 h2, z64_toInt h3 h4] at this
theorem z64_sub (a b : Int) : z64 a - z64 b = z64 (a - b) := (Int64.ofInt_sub a b).symm
theorem z64_add (a b : Int) : z64 a + z64 b = z64 (a + b) := (Int64.ofInt_add a b).symm
theorem z64_mul (a b : Int) : z64 a * z64 b = z64 (a * b) := (Int64.ofInt_mul a b).symm
theorem z64_neg (a : Int) : -z64 a = z64 (-a) := (Int64.ofInt_neg a).symm
theorem z64_of (x : Int32) : x.toInt64 = z64 x.toInt := by
  have h := i32_b x
  have e : x.toInt64.toInt = (z64 x.toInt).toInt := by
    rw [z64_toInt (by omega) (by omega), Int32.toInt_toInt64]
  exact Int64.toInt_inj.mp e
theorem lcmp_lt {a b : Int} (h1 : -9223372036854775808 ≤ a) (h2 : a ≤ 9223372036854775807) (h3 : -9223372036854775808 ≤ b) (h4 : b ≤ 9223372036854775807) : lcmpV (z64 a) (z64 b) < 0 ↔ a < b := by
  have e1 := z64_inj h1 h2 h3 h4
  have e2 := z64_lt h3 h4 h1 h2
  unfold lcmpV
  by_cases q : z64 b < z64 a
  · rw [if_pos q]
    have := e2.mp q
    exact ⟨fun h => absurd h (by decide), fun h => by omega⟩
  · rw [if_neg q]
    have q' : ¬ b < a := fun c => q (e2.mpr c)
    by_cases q2 : z64 a = z64 b
    · rw [if_pos q2]
      have := e1.mp q2
      exact ⟨fun h => absurd h (by decide), fun h => by omega⟩
    · rw [if_neg q2]
      have q3 : ¬ a = b := fun c => q2 (e1.mpr c)
      exact ⟨fun _ => by omega, fun _ => by decide⟩
def WL (I : IM) (t : Tx) : Prop := I 55 3 = z32 (t.length : Int) ∧ t.length ≤ 80 ∧ ∀ j, j < t.length → I 58 j = t.getD j 0
def WR (I I2 : IM) : Prop := ∀ q j, ¬ ((q = 55 ∧ j = 3) ∨ q = 58) → I2 q j = I q j
theorem WR.rf {I : IM} : WR I I := fun _ _ _ => rfl
theorem WR.tr {I I2 I3 : IM} (h : WR I I2) (h2 : WR I2 I3) : WR I I3 := fun q k e => (h2 q k e).trans (h q k e)
theorem WR.q {D : DY} {I I2 : IM} (h : WR I I2) : QF D I I2 := fun q k e => h q k (fun c => e (by unfold QFp; omega))
theorem getD_snoc {t : Tx} {c : Int32} {j : Nat} : (t ++ [c]).getD j 0 = if j = t.length then c else t.getD j 0 := by
  rw [List.getD_eq_getElem?_getD, List.getD_eq_getElem?_getD]
  rcases Nat.lt_trichotomy j t.length with h | h | h
  · rw [List.getElem?_append_left h, if_neg (by omega)]
  · subst h
    rw [List.getElem?_append_right (Nat.le_refl _), Nat.sub_self, if_pos rfl]
    rfl
  · rw [List.getElem?_append_right (by omega), if_neg (by omega), List.getElem?_eq_none (by rw [List.length_singleton]; omega), List.getElem?_eq_none (by omega)]
/-- the figures of a number of at most k figures; b: some came before -/
def dgN : Nat → Bool → Nat → Tx
  | 0, _, _ => []
  | k + 1, b, r => if b = true ∨ 0 < r / 10 ^ k ∨ k = 0 then z32 (48 + (r / 10 ^ k : Nat)) :: dgN k true (r % 10 ^ k) else dgN k false (r % 10 ^ k)
theorem dgN_len : ∀ (k : Nat) (b : Bool) (r : Nat), (dgN k b r).length ≤ k
  | 0, _, _ => Nat.le_refl _
  | k + 1, b, r => by
    unfold dgN
    split
    · rw [List.length_cons]
      have := dgN_len k true (r % 10 ^ k)
      omega
    · have := dgN_len k false (r % 10 ^ k)
      omega
def nuV (x : Int32) : Tx := (if x.toInt < 0 then [45] else []) ++ dgN 10 false x.toInt.natAbs
theorem nuV_len (x : Int32) : (nuV x).length ≤ 11 := by
  unfold nuV
  have := dgN_len 10 false x.toInt.natAbs
  rw [List.length_append]
  split <;> simp <;> omega
theorem pow_le9 {k : Nat} (h : k ≤ 9) : 1 ≤ 10 ^ k ∧ 10 ^ k ≤ 1000000000 := by
  obtain rfl | rfl | rfl | rfl | rfl | rfl | rfl | rfl | rfl | rfl : k = 0 ∨ k = 1 ∨ k = 2 ∨ k = 3 ∨ k = 4 ∨ k = 5 ∨ k = 6 ∨ k = 7 ∨ k = 8 ∨ k = 9 := by omega
  all_goals decide
theorem unit10 : ∀ k : Nat, k < 9 → z64 ((10 ^ (k + 1) : Nat) : Int) / 10 = z64 ((10 ^ k : Nat) : Int) := by decide +kernel
theorem SOK.wr {I I2 : IM} (h : SOK I) (hf : WR I I2) : SOK I2 := h.mono (fun a ha => funext fun j => hf a j (by omega))
/-- the text of the event at a position -/
def txV (p : Nat) (e : EV) : Tx := nuV (z32 (p : Int)) ++ [58] ++ kindW.getD (eK e) [] ++ [32] ++ nuV (z32 (eS e : Int)) ++ [46] ++ nuV (z32 (eV e : Int)) ++ [32] ++ [97] ++ [61] ++ nuV (eA e) ++ [32] ++ [98] ++ [61] ++ nuV (eB e) ++ [32] ++ [102] ++ nuV (z32 (eF e : Int))
theorem nu3 : ∀ v : Nat, v ≤ 240 → (nuV (z32 (v : Int))).length ≤ 3 := by decide +kernel
theorem kindW_len : ∀ k : Nat, k < 9 → (kindW.getD k []).length ≤ 6 := by decide +kernel
theorem LG.wr {I I2 : IM} {L : List EV} (h : LG 55 I L) (hf : WR I I2) : LG 55 I2 L := h.fr (hf _ _ (by omega)) (fun k => hf _ _ (by omega)) (fun k => hf _ _ (by omega))
theorem WL.len {I : IM} {t : Tx} (h : WL I t) : t.length ≤ 80 := h.2.1
theorem txV_len {p : Nat} {e : EV} (hp : p ≤ 240) (h1 : eS e ≤ 240) (h2 : eK e < 9) (h3 : eV e ≤ 240) (h4 : eF e ≤ 240) : (txV p e).length ≤ 80 := by
  have a1 := nu3 p hp
  have a2 := nu3 _ h1
  have a3 := nu3 _ h3
  have a4 := nu3 _ h4
  have a5 := nuV_len (eA e)
  have a6 := nuV_len (eB e)
  have a7 := kindW_len _ h2
  unfold txV
  simp only [List.length_append, List.length_singleton]
  omega
/-- the digest of texts -/
def dgT (d : Int32) (t : Tx) : Int32 := t.foldl (fun d c => d * 31 + c) d
def dgL : List EV → Nat → Int32 → Int32
  | [], _, d => d
  | e :: l, p, d => dgL l (p + 1) (dgT d (txV p e))
