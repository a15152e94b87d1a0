/-! Rows for whole numbers and for formulas. -/
def z32 (n : Int) : Int32 := Int32.ofInt n
theorem z32_toInt {n : Int} (h1 : -2147483648 ≤ n) (h2 : n ≤ 2147483647) : (z32 n).toInt = n := by
  unfold z32
  rw [Int32.toInt_ofInt]
  show n.bmod 4294967296 = n
  exact Int.bmod_eq_of_le (by omega) (by omega)
theorem z32_all (x : Int32) : ∃ n : Int, x = z32 n ∧ -2147483648 ≤ n ∧ n ≤ 2147483647 := by
  refine ⟨x.toInt, ?_, ?_, ?_⟩
  · unfold z32
    rw [Int32.ofInt_toInt]
  · have := Int32.le_toInt x
    simpa using this
  · have := Int32.toInt_lt x
    have h : (2 : Int) ^ 31 = 2147483648 := rfl
    omega
theorem z32_add (a b : Int) : z32 a + z32 b = z32 (a + b) := (Int32.ofInt_add a b).symm
theorem z32_sub (a b : Int) : z32 a - z32 b = z32 (a - b) := (Int32.ofInt_sub a b).symm
theorem z32_mul (a b : Int) : z32 a * z32 b = z32 (a * b) := (Int32.ofInt_mul a b).symm
theorem z32_neg (a : Int) : -z32 a = z32 (-a) := (Int32.ofInt_neg a).symm
theorem z32_lit (k : Nat) : (OfNat.ofNat k : Int32) = z32 (OfNat.ofNat k : Int) := rfl
theorem z32_inj {a b : Int} (h1 : -2147483648 ≤ a) (h2 : a ≤ 2147483647) (h3 : -2147483648 ≤ b) (h4 : b ≤ 2147483647) : z32 a = z32 b ↔ a = b := by
  refine ⟨fun h => ?_, fun h => by rw [h]⟩
  have := congrArg Int32.toInt h
  rwa [z32_toInt h1 h2, z32_toInt h3 h4] at this
theorem z32_lt {a b : Int} (h1 : -2147483648 ≤ a) (h2 : a ≤ 2147483647) (h3 : -2147483648 ≤ b) (h4 : b ≤ 2147483647) : z32 a < z32 b ↔ a < b := by
  rw [Int32.lt_iff_toInt_lt, z32_toInt h1 h2, z32_toInt h3 h4]
theorem z32_le {a b : Int} (h1 : -2147483648 ≤ a) (h2 : a ≤ 2147483647) (h3 : -2147483648 ≤ b) (h4 : b ≤ 2147483647) : z32 a ≤ z32 b ↔ a ≤ b := by
  rw [Int32.le_iff_toInt_le, z32_toInt h1 h2, z32_toInt h3 h4]
theorem ix_z {n : Int} (h1 : 0 ≤ n) (h2 : n ≤ 2147483647) : ixN (z32 n) = n.toNat := by
  unfold ixN
  rw [z32_toInt (by omega) h2]
theorem ix_n {n : Nat} (h2 : n ≤ 2147483647) : ixN (z32 n) = n := by
  rw [ix_z (by omega) (by omega)]
  exact Int.toNat_natCast n
def b32 (c : Prop) [Decidable c] : Int32 := if c then 1 else 0
theorem b32_0 {c : Prop} [Decidable c] : b32 c = 0 ↔ ¬ c := by
  unfold b32
  by_cases h : c <;> simp [h]
theorem b32_1 {c : Prop} [Decidable c] : b32 c = 1 ↔ c := by
  unfold b32
  by_cases h : c <;> simp [h]
theorem b32_r {c : Prop} [Decidable c] : rOk 2 (b32 c) := by
  unfold b32
  by_cases h : c
  · rw [if_pos h]
    exact Or.inr rfl
  · rw [if_neg h]
    exact Or.inl rfl
theorem tsP_iff {c : Prop} [i : Decidable c] {r : Prop} : tsP c r ↔ c ∧ r := by
  unfold tsP
  by_cases h : c <;> simp [h]
theorem brP_iff {c : Prop} [i : Decidable c] {a b : Prop} : brP c a b ↔ (c → a) ∧ (¬ c → b) := by
  unfold brP
  by_cases h : c <;> simp [h]
theorem brP_t {c : Prop} [i : Decidable c] {a b : Prop} (h : c) : brP c a b ↔ a := by
  unfold brP
  rw [if_pos h]
theorem brP_f {c : Prop} [i : Decidable c] {a b : Prop} (h : ¬ c) : brP c a b ↔ b := by
  unfold brP
  rw [if_neg h]
theorem rtP_iff {k : Nat} {v : Int32} {r : Prop} : rtP k v r ↔ rOk k v ∧ r := by
  unfold rtP
  by_cases h : rOk k v <;> simp [h]
theorem onR_some {a : Nat} {k : Nat → Prop} : onR False (some a) k ↔ k a := Iff.rfl
theorem wI_inj {I J I2 : IM} {D : DY} (h : mm I2 D = wI (mm I D) J) : I2 = J := congrArg (fun M : PM => pI M) h
theorem qV_iff {I I2 : IM} {D : DY} {K : IM → Prop} : qV (mm I D) K none (mm I2 D) ↔ K I2 := ⟨fun ⟨_, _, e, h⟩ => by rw [wI_inj e]; exact h, qV_i⟩
theorem qI_iff {I I2 : IM} {D : DY} {K : Int32 → IM → Prop} {x : Int32} : qI (mm I D) K (some (vI x)) (mm I2 D) ↔ K x I2 := ⟨fun ⟨_, _, e1, e, h⟩ => by cases e1; rw [wI_inj e]; exact h, qI_i⟩
theorem qL_iff {I I2 : IM} {D : DY} {K : Int64 → IM → Prop} {x : Int64} : qL (mm I D) K (some (vL x)) (mm I2 D) ↔ K x I2 := ⟨fun ⟨_, _, e1, e, h⟩ => by cases e1; rw [wI_inj e]; exact h, qL_i⟩
theorem qR_iff {I I2 : IM} {D : DY} {K : Option Nat → IM → Prop} {x : Option Nat} : qR (mm I D) K (some (vR x)) (mm I2 D) ↔ K x I2 := ⟨fun ⟨_, _, e1, e, h⟩ => by cases e1; rw [wI_inj e]; exact h, qR_i⟩
theorem Mt_iff {d y : Nat} {as : List PV} {M M0 : PM} {v0 : Option PV} (h : Mt GG d y as M (fun v M2 => v = v0 ∧ M2 = M0)) {Q : Option PV → PM → Prop} : Mt GG d y as M Q ↔ Q v0 M0 := by
  obtain ⟨n, v, M1, h1, rfl, rfl⟩ := h
  refine ⟨fun ⟨k, w, M2, h2, h3⟩ => ?_, fun h => ⟨n, v, M1, h1, h⟩⟩
  have e1 := exec_le GG (k := k) h1
  have e2 := exec_le GG (k := n) h2
  rw [Nat.add_comm k n, e1] at e2
  cases e2
  exact h3
theorem CV_iff {d y : Nat} {as : List PV} {I I0 : IM} {D : DY} (h : CV d y as (mm I D) (fun I2 => I2 = I0)) {K : IM → Prop} : CV d y as (mm I D) K ↔ K I0 :=
  (Mt_iff (v0 := none) (M0 := mm I0 D) (Mt.mono h (fun v M2 ⟨I2, e1, e2, e3⟩ => by subst e3; exact ⟨e1, e2⟩))).trans qV_iff
theorem CI_iff {d y : Nat} {as : List PV} {I I0 : IM} {D : DY} {x0 : Int32} (h : CI d y as (mm I D) (fun x I2 => x = x0 ∧ I2 = I0)) {K : Int32 → IM → Prop} : CI d y as (mm I D) K ↔ K x0 I0 :=
  (Mt_iff (v0 := some (vI x0)) (M0 := mm I0 D) (Mt.mono h (fun v M2 ⟨x, I2, e1, e2, e3⟩ => by obtain ⟨rfl, rfl⟩ := e3; exact ⟨e1, e2⟩))).trans qI_iff
theorem CL_iff {d y : Nat} {as : List PV} {I I0 : IM} {D : DY} {x0 : Int64} (h : CL d y as (mm I D) (fun x I2 => x = x0 ∧ I2 = I0)) {K : Int64 → IM → Prop} : CL d y as (mm I D) K ↔ K x0 I0 :=
  (Mt_iff (v0 := some (vL x0)) (M0 := mm I0 D) (Mt.mono h (fun v M2 ⟨x, I2, e1, e2, e3⟩ => by obtain ⟨rfl, rfl⟩ := e3; exact ⟨e1, e2⟩))).trans qL_iff
theorem CR_iff {d y : Nat} {as : List PV} {I I0 : IM} {D : DY} {x0 : Option Nat} (h : CR d y as (mm I D) (fun x I2 => x = x0 ∧ I2 = I0)) {K : Option Nat → IM → Prop} : CR d y as (mm I D) K ↔ K x0 I0 :=
  (Mt_iff (v0 := some (vR x0)) (M0 := mm I0 D) (Mt.mono h (fun v M2 ⟨x, I2, e1, e2, e3⟩ => by obtain ⟨rfl, rfl⟩ := e3; exact ⟨e1, e2⟩))).trans qR_iff
theorem up2_eq {α : Type} {f : Nat → Nat → α} {a j : Nat} {v : α} : up2 f a j v a j = v := if_pos ⟨rfl, rfl⟩
theorem up2_ne {α : Type} {f : Nat → Nat → α} {a j b k : Nat} {v : α} (h : b ≠ a) : up2 f a j v b k = f b k := if_neg (fun q => h q.1)
theorem up2_nj {α : Type} {f : Nat → Nat → α} {a j b k : Nat} {v : α} (h : k ≠ j) : up2 f a j v b k = f b k := if_neg (fun q => h q.2)
theorem up2_row {α : Type} {f : Nat → Nat → α} {a j b : Nat} {v : α} (h : b ≠ a) : up2 f a j v b = f b := funext fun _ => up2_ne h
