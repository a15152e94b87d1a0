/-! Texts of events. -/
def z64 (n : Int) : Int64 := Int64.ofInt n
theorem z64_toInt {n : Int} (h1 : -9223372036854775808 ≤ n) (h2 : n ≤ 9223372036854775807) : (z64 n).toInt = n := by
  unfold z64
  rw [Int64.toInt_ofInt]
  show n.bmod 18446744073709551616 = n
  exact Int.bmod_eq_of_le (by omega) (by omega)
theorem z64_lt {a b : Int} (h1 : -9223372036854775808 ≤ a) (h2 : a ≤ 9223372036854775807) (h3 : -9223372036854775808 ≤ b) (h4 : b ≤ 9223372036854775807) : z64 a < z64 b ↔ a < b := by
  rw [Int64.lt_iff_toInt_lt, z64_toInt h1 h2, z64_toInt h3 h4]
theorem z64_inj {a b : Int} (h1 : -9223372036854775808 ≤ a) (h2 : a ≤ 9223372036854775807) (h3 : -9223372036854775808 ≤ b) (h4 : b ≤ 9223372036854775807) : z64 a = z64 b ↔ a = b := by
  refine ⟨fun h => ?_, fun h => by rw [h]⟩
  have := congrArg Int64.toInt h
  rwa [z64_toInt h1 h2, z64_toInt h3 h4] at this
theorem z64_sub (a b : Int) : z64 a - z64 b = z64 (a - b) := (Int64.ofInt_sub a b).symm
theorem z64_add (a b : Int) : z64 a + z64 b = z64 (a + b) := (Int64.ofInt_add a b).symm
theorem z64_mul (a b : Int) : z64 a * z64 b = z64 (a * b) := (Int64.ofInt_mul a b).symm
theorem z64_neg (a : Int) : -z64 a = z64 (-a) := (Int64.ofInt_neg a).symm
theorem z64_of (x : Int32) : x.toInt64 = z64 x.toInt := by
  have h := i32_b x
  have e : x.toInt64.toInt = (z64 x.toInt).toInt := by
    rw [z64_toInt (by omega) (by omega), Int32.toInt_toInt64]
  exact Int64.toInt_inj.mp e
theorem lcmp_lt {a b : Int} (h1 : -9223372036854775808 ≤ a) (h2 : a ≤ 9223372036854775807) (h3 : -9223372036854775808 ≤ b) (h4 : b ≤ 9223372036854775807) : lcmpV (z64 a) (z64 b) < 0 ↔ a < b := by
  have e1 := z64_inj h1 h2 h3 h4
  have e2 := z64_lt h3 h4 h1 h2
  unfold lcmpV
  by_cases q : z64 b < z64 a
  · rw [if_pos q]
    have := e2.mp q
    exact ⟨fun h => absurd h (by decide), fun h => by omega⟩
  · rw [if_neg q]
    have q' : ¬ b < a := fun c => q (e2.mpr c)
    by_cases q2 : z64 a = z64 b
    · rw [if_pos q2]
      have := e1.mp q2
      exact ⟨fun h => absurd h (by decide), fun h => by omega⟩
    · rw [if_neg q2]
      have q3 : ¬ a = b := fun c => q2 (e1.mpr c)
      exact ⟨fun _ => by omega, fun _ => by decide⟩
def WL (I : IM) (t : Tx) : Prop := I 55 3 = z32 (t.length : Int) ∧ t.length ≤ 80 ∧ ∀ j, j < t.length → I 58 j = t.getD j 0
def WR (I I2 : IM) : Prop := ∀ q j, ¬ ((q = 55 ∧ j = 3) ∨ q = 58) → I2 q j = I q j
theorem WR.rf {I : IM} : WR I I := fun _ _ _ => rfl
theorem WR.tr {I I2 I3 : IM} (h : WR I I2) (h2 : WR I2 I3) : WR I I3 := fun q k e => (h2 q k e).trans (h q k e)
theorem WR.q {D : DY} {I I2 : IM} (h : WR I I2) : QF D I I2 := fun q k e => h q k (fun c => e (by unfold QFp; omega))
theorem getD_snoc {t : Tx} {c : Int32} {j : Nat} : (t ++ [c]).getD j 0 = if j = t.length then c else t.getD j 0 := by
  rw [List.getD_eq_getElem?_getD, List.getD_eq_getElem?_getD]
  rcases Nat.lt_trichotomy j t.length with h | h | h
  · rw [List.getElem?_append_left h, if_neg (by omega)]
  · subst h
    rw [List.getElem?_append_right (Nat.le_refl _), Nat.sub_self, if_pos rfl]
    rfl
  · rw [List.getElem?_append_right (by omega), if_neg (by omega), List.getElem?_eq_none (by rw [List.length_singleton]; omega), List.getElem?_eq_none (by omega)]
theorem c_wsign {d : Nat} {I : IM} {D : DY} {K : IM → Prop} {t : Tx} {c : Int32} (h : WL I t) (hl : t.length < 80) (k : ∀ I2, WR I I2 → WL I2 (t ++ [c]) → K I2) : CV d 103 [vR (some 55), vI c] (mm I D) K := by
  refine s_Log_writeSign _ ?_
  rw [h.1]
  refine (brP_f (by show ¬ z32 80 ≤ _; rw [z32_le] <;> omega)).mpr (tsP_i (inB_n hl (by omega)) ?_)
  rw [ix_n (by omega), z32_s]
  refine qV_i (k _ (fun q j e => ?_) ⟨?_, ?_, fun j hj => ?_⟩)
  · by_cases e1 : q = 55
    · subst e1
      rw [up2_nj (by omega), up2_ne (by omega)]
    · rw [up2_ne e1, up2_ne (by omega)]
  · rw [up2_eq, List.length_append, List.length_singleton]
  · rw [List.length_append, List.length_singleton]
    omega
  · rw [List.length_append, List.length_singleton] at hj
    rw [up2_ne (by omega), getD_snoc]
    by_cases e : j = t.length
    · rw [e, up2_eq, if_pos rfl]
    · rw [up2_nj e, if_neg e]
      exact h.2.2 j (by omega)
/-- the figures of a number of at most k figures; b: some came before -/
def dgN : Nat → Bool → Nat → Tx
  | 0, _, _ => []
  | k + 1, b, r => if b = true ∨ 0 < r / 10 ^ k ∨ k = 0 then z32 (48 + (r / 10 ^ k : Nat)) :: dgN k true (r % 10 ^ k) else dgN k false (r % 10 ^ k)
theorem dgN_len : ∀ (k : Nat) (b : Bool) (r : Nat), (dgN k b r).length ≤ k
  | 0, _, _ => Nat.le_refl _
  | k + 1, b, r => by
    unfold dgN
    split
    · rw [List.length_cons]
      have := dgN_len k true (r % 10 ^ k)
      omega
    · have := dgN_len k false (r % 10 ^ k)
      omega
def nuV (x : Int32) : Tx := (if x.toInt < 0 then [45] else []) ++ dgN 10 false x.toInt.natAbs
theorem nuV_len (x : Int32) : (nuV x).length ≤ 11 := by
  unfold nuV
  have := dgN_len 10 false x.toInt.natAbs
  rw [List.length_append]
  split <;> simp <;> omega
theorem pow_le9 {k : Nat} (h : k ≤ 9) : 1 ≤ 10 ^ k ∧ 10 ^ k ≤ 1000000000 := by
  obtain rfl | rfl | rfl | rfl | rfl | rfl | rfl | rfl | rfl | rfl : k = 0 ∨ k = 1 ∨ k = 2 ∨ k = 3 ∨ k = 4 ∨ k = 5 ∨ k = 6 ∨ k = 7 ∨ k = 8 ∨ k = 9 := by omega
  all_goals decide
theorem fig_loop {d : Nat} {I : IM} {D : DY} {Q : Option PV → PM → Prop} {p1 : Int32} {u : Nat} {l6 l7 : Int32} (hu : 1 ≤ u ∧ u ≤ 1000000000) (l7b : Bool) (hb : l6 = b32 (l7b = true)) : ∀ (g f r : Nat), r / u = g → f + g ≤ 9 →
    brP (¬ l6 = 0)
      (CV d 103 [vR (some 55), vI (48 + z32 ((f + g : Nat) : Int))] (mm I D) (fun I1 => Wp GG (d + 1) 102 29 [vR (some 55), vI p1, vL (z64 ((r - g * u : Nat) : Int)), vT, vL (z64 (u : Int) / 10), vT, vI 1, vI (l7 + 1), vI (z32 ((f + g : Nat) : Int))] [] (mm I1 D) Q))
      (brP ((0 : Int32) < z32 ((f + g : Nat) : Int))
        (CV d 103 [vR (some 55), vI (48 + z32 ((f + g : Nat) : Int))] (mm I D) (fun I2 => Wp GG (d + 1) 102 29 [vR (some 55), vI p1, vL (z64 ((r - g * u : Nat) : Int)), vT, vL (z64 (u : Int) / 10), vT, vI 1, vI (l7 + 1), vI (z32 ((f + g : Nat) : Int))] [] (mm I2 D) Q))
        (brP (¬ l7 = 9)
          (Wp GG (d + 1) 102 29 [vR (some 55), vI p1, vL (z64 ((r - g * u : Nat) : Int)), vT, vL (z64 (u : Int) / 10), vT, vI 0, vI (l7 + 1), vI (z32 ((f + g : Nat) : Int))] [] (mm I D) Q)
          (CV d 103 [vR (some 55), vI (48 + z32 ((f + g : Nat) : Int))] (mm I D) (fun I3 => Wp GG (d + 1) 102 29 [vR (some 55), vI p1, vL (z64 ((r - g * u : Nat) : Int)), vT, vL (z64 (u : Int) / 10), vT, vI 1, vI (l7 + 1), vI (z32 ((f + g : Nat) : Int))] [] (mm I3 D) Q)))) →
    r ≤ 10000000000 → Wp GG (d + 1) 102 39 [vR (some 55), vI p1, vL (z64 (r : Int)), vT, vL (z64 (u : Int)), vT, vI l6, vI l7, vI (z32 (f : Int))] [] (mm I D) Q := by
  intro g
  induction g with
  | zero =>
    intro f r hr hf h hr2
    rw [Nat.zero_mul, Nat.sub_zero, Nat.add_zero] at h
    have hlt : r < u := by
      rcases Nat.lt_or_ge r u with q | q
      · exact q
      · have := Nat.div_pos q (by omega)
        omega
    refine s_Log_writeNumber_39 _ _ _ _ _ _ (brP_i (fun _ => h) (fun _ => (brP_t ?_).mpr h))
    rw [lcmp_lt] <;> omega
  | succ g ih =>
    intro f r hr hf h hr2
    have hge : u ≤ r := by
      rcases Nat.lt_or_ge r u with q | q
      · rw [Nat.div_eq_of_lt q] at hr
        omega
      · exact q
    refine s_Log_writeNumber_39 _ _ _ _ _ _ ((brP_f (by show ¬ z32 9 ≤ _; rw [z32_le] <;> omega)).mpr ((brP_f ?_).mpr ?_))
    · rw [lcmp_lt] <;> omega
    · rw [z64_sub, z32_s, show (r : Int) - (u : Int) = ((r - u : Nat) : Int) by omega]
      refine ih (f + 1) (r - u) ?_ (by omega) ?_ (by omega)
      · have := Nat.div_eq_sub_div (show 0 < u by omega) hge
        omega
      · rw [show f + 1 + g = f + (g + 1) by omega, show r - u - g * u = r - (g + 1) * u by rw [Nat.succ_mul]; omega]
        exact h
theorem unit10 : ∀ k : Nat, k < 9 → z64 ((10 ^ (k + 1) : Nat) : Int) / 10 = z64 ((10 ^ k : Nat) : Int) := by decide +kernel
theorem num_out {d : Nat} {D : DY} {Q : Option PV → PM → Prop} {p1 : Int32} : ∀ (k : Nat), k ≤ 10 → ∀ (I : IM) (t : Tx) (b : Bool) (r : Nat) (l4 : Int64) (w : PV), r < 10 ^ k → WL I t → t.length + (dgN k b r).length ≤ 80 → (∀ j, k = j + 1 → l4 = z64 ((10 ^ j : Nat) : Int)) →
    (∀ I2, WR I I2 → WL I2 (t ++ dgN k b r) → Q none (mm I2 D)) → Wp GG (d + 1) 102 29 [vR (some 55), vI p1, vL (z64 (r : Int)), vT, vL l4, vT, vI (b32 (b = true)), vI (z32 ((10 - k : Nat) : Int)), w] [] (mm I D) Q := by
  intro k
  induction k with
  | zero =>
    intro hk I t b r l4 w hr hW hl h4 kk
    refine s_Log_writeNumber_29 _ _ _ _ _ _ ((brP_t (by decide)).mpr (kk I WR.rf ?_))
    rw [show dgN 0 b r = [] from rfl, List.append_nil]
    exact hW
  | succ k ih =>
    intro hk I t b r l4 w hr hW hl h4 kk
    have hp := pow_le9 (show k ≤ 9 by omega)
    obtain rfl := h4 k rfl
    refine s_Log_writeNumber_29 _ _ _ _ _ _ ((brP_f (by show ¬ z32 10 ≤ _; rw [z32_le] <;> omega)).mpr ?_)
    have hdiv : r / 10 ^ k ≤ 9 := by
      have : r / 10 ^ k < 10 := (Nat.div_lt_iff_lt_mul (by omega)).mpr (by rw [Nat.pow_succ, Nat.mul_comm] at hr; exact hr)
      omega
    have h0 : (0 : Int) ≤ ((r / 10 ^ k : Nat) : Int) := Int.natCast_nonneg _
    have hr10 : r ≤ 10000000000 := by
      rw [Nat.pow_succ] at hr
      omega
    have emod : r - r / 10 ^ k * 10 ^ k = r % 10 ^ k := by
      have := Nat.div_add_mod r (10 ^ k)
      rw [Nat.mul_comm] at this
      omega
    refine fig_loop (d := d) ⟨hp.1, hp.2⟩ b rfl (r / 10 ^ k) 0 r rfl (by omega) ?_ hr10
    rw [emod, Nat.zero_add]
    have el : z32 ((10 - (k + 1) : Nat) : Int) + 1 = z32 ((10 - k : Nat) : Int) := by
      rw [z32_s]
      congr 2
      omega
    have hmod : r % 10 ^ k < 10 ^ k := Nat.mod_lt _ (by omega)
    have hu : ∀ j, k = j + 1 → z64 ((10 ^ k : Nat) : Int) / 10 = z64 ((10 ^ j : Nat) : Int) := fun j hj => by
      subst hj
      exact unit10 j (by omega)
    rw [el]
    have edg : dgN (k + 1) b r = if b = true ∨ 0 < r / 10 ^ k ∨ k = 0 then z32 (48 + (r / 10 ^ k : Nat)) :: dgN k true (r % 10 ^ k) else dgN k false (r % 10 ^ k) := rfl
    have go : (b = true ∨ 0 < r / 10 ^ k ∨ k = 0) → CV d 103 [vR (some 55), vI (48 + z32 ((r / 10 ^ k : Nat) : Int))] (mm I D) (fun I1 => Wp GG (d + 1) 102 29 [vR (some 55), vI p1, vL (z64 ((r % 10 ^ k : Nat) : Int)), vT, vL (z64 ((10 ^ k : Nat) : Int) / 10), vT, vI 1, vI (z32 ((10 - k : Nat) : Int)), vI (z32 ((r / 10 ^ k : Nat) : Int))] [] (mm I1 D) Q) := by
      intro hc
      rw [edg, if_pos hc] at hl kk
      rw [List.length_cons] at hl
      have e48 : (48 : Int32) + z32 ((r / 10 ^ k : Nat) : Int) = z32 (48 + (r / 10 ^ k : Nat)) := z32_add 48 _
      rw [e48]
      refine c_wsign hW (by omega) (fun I2 f2 w2 => ?_)
      refine ih (by omega) I2 _ true _ _ _ hmod w2 (by rw [List.length_append, List.length_singleton]; omega) hu (fun I3 f3 w3 => kk I3 (f2.tr f3) ?_)
      rw [List.append_assoc] at w3
      exact w3
    refine brP_i (fun q => ?_) (fun q => brP_i (fun q2 => ?_) (fun q2 => brP_i (fun q3 => ?_) (fun q3 => ?_)))
    · exact go (Or.inl (Classical.not_not.mp (fun c => q (b32_0.mpr c))))
    · rw [z32_0, z32_lt (by omega) (by omega) (by omega) (by omega)] at q2
      exact go (Or.inr (Or.inl (by omega)))
    · have qb := b32_0.mp (Classical.not_not.mp q)
      rw [z32_0, z32_lt (by omega) (by omega) (by omega) (by omega)] at q2
      have q3 : k ≠ 0 := fun e => q3 (by rw [e]; rfl)
      have hc : ¬ (b = true ∨ 0 < r / 10 ^ k ∨ k = 0) := by
        rintro (c | c | c)
        · exact qb c
        · omega
        · exact q3 c
      rw [edg, if_neg hc] at hl kk
      exact ih (by omega) I t false _ _ _ hmod hW hl hu kk
    · have q3 := Classical.not_not.mp q3
      have q3 : z32 ((10 - (k + 1) : Nat) : Int) = z32 9 := q3
      rw [z32_inj (by omega) (by omega) (by omega) (by omega)] at q3
      exact go (Or.inr (Or.inr (by omega)))
theorem c_wnum {d : Nat} {I : IM} {D : DY} {K : IM → Prop} {t : Tx} {x : Int32} (h : WL I t) (hl : t.length + 11 ≤ 80) (k : ∀ I2, WR I I2 → WL I2 (t ++ nuV x) → K I2) : CV (d + 1) 102 [vR (some 55), vI x] (mm I D) K := by
  have hb := i32_b x
  have hlen := dgN_len 10 false x.toInt.natAbs
  refine s_Log_writeNumber _ ?_
  rw [z64_of, show (0 : Int64) = z64 0 from rfl]
  have fin : ∀ (J : IM) (u : Tx), WL J u → u.length + 10 ≤ 80 → (∀ I2, WR J I2 → WL I2 (u ++ dgN 10 false x.toInt.natAbs) → K I2) → Wp GG (d + 1) 102 29 [vR (some 55), vI x, vL (z64 (x.toInt.natAbs : Int)), vT, vL 1000000000, vT, vI 0, vI 0, vT] [] (mm J D) (qV (mm I D) K) := fun J u hJ hu kk =>
    num_out (d := d) 10 (Nat.le_refl _) J u false x.toInt.natAbs (z64 ((10 ^ 9 : Nat) : Int)) vT (by omega) hJ (by omega) (fun j hj => by have e : j = 9 := (by omega); subst e; rfl) (fun I2 f2 w2 => qV_i (kk I2 f2 w2))
  have hlc := lcmp_lt (a := x.toInt) (b := 0) (by omega) (by omega) (by omega) (by omega)
  refine brP_i (fun q => ?_) (fun q => ?_)
  · have q : ¬ x.toInt < 0 := fun c => absurd q (Int32.not_le.mpr (hlc.mpr c))
    have e : nuV x = dgN 10 false x.toInt.natAbs := by
      unfold nuV
      rw [if_neg q]
      rfl
    rw [e] at k
    have e2 : z64 x.toInt = z64 (x.toInt.natAbs : Int) := by congr 1; omega
    rw [e2]
    exact fin I t h (by omega) k
  · have q : x.toInt < 0 := hlc.mp (Int32.not_le.mp q)
    have e : nuV x = 45 :: dgN 10 false x.toInt.natAbs := by
      unfold nuV
      rw [if_pos q]
      rfl
    rw [e] at k
    have e2 : -z64 x.toInt = z64 (x.toInt.natAbs : Int) := by rw [z64_neg]; congr 1; omega
    rw [e2]
    refine c_wsign h (by omega) (fun I2 f2 w2 => fin I2 _ w2 (by rw [List.length_append, List.length_singleton]; omega) (fun I3 f3 w3 => k I3 (f2.tr f3) ?_))
    rw [List.append_assoc] at w3
    exact w3
def wkL (k : Nat) : Tx → Nat → Tx
  | [], _ => []
  | c :: l, w => if c = 32 then wkL k l (w + 1) else if w = k then c :: wkL k l w else wkL k l w
theorem wkL_ok : ∀ k : Nat, k < 9 → wkL k (sL 10) 0 = kindW.getD k [] ∧ (wkL k (sL 10) 0).length ≤ 6 := by decide +kernel
theorem SOK.wr {I I2 : IM} (h : SOK I) (hf : WR I I2) : SOK I2 := h.mono (fun a ha => funext fun j => hf a j (by omega))
theorem kind_loop {d : Nat} {D : DY} {Q : Option PV → PM → Prop} {kd : Nat} (hk : kd < 9) : ∀ (xs pre : Tx) (I : IM) (t : Tx) (w : Nat) (u : PV), SOK I → sL 10 = pre ++ xs → w ≤ pre.length → WL I t → t.length + (wkL kd xs w).length ≤ 80 → (∀ I2, WR I I2 → WL I2 (t ++ wkL kd xs w) → Q none (mm I2 D)) →
    Wp GG (d + 4) 104 4 [vR (some 55), vI (z32 (kd : Int)), vI (z32 (w : Int)), vI (z32 (pre.length : Int)), u] [] (mm I D) Q := by
  have h54 : (sL 10).length = 50 ∨ (sL 10).length < 100 := Or.inr (by decide +kernel)
  have h54 : (sL 10).length < 100 := h54.elim (fun h => by omega) id
  intro xs
  induction xs with
  | nil =>
    intro pre I t w u hS hp hw hW hl k
    have e : (sL 10).length = pre.length := by rw [hp, List.append_nil]
    refine s_Log_writeKind_4 _ _ _ _ ?_
    rw [e_slen (d := d + 2) (j := 10) hS (by omega)]
    refine (brP_t (by rw [z32_le] <;> omega)).mpr (k I WR.rf ?_)
    rw [show wkL kd [] w = [] from rfl, List.append_nil]
    exact hW
  | cons c xs ih =>
    intro pre I t w u hS hp hw hW hl k
    have e : (sL 10).length = pre.length + (xs.length + 1) := by rw [hp, List.length_append, List.length_cons]
    have hp2 : sL 10 = (pre ++ [c]) ++ xs := by rw [hp, List.append_assoc]; rfl
    have ih := fun I t w u hS hw => ih (pre ++ [c]) I t w u hS hp2 hw
    rw [List.length_append, List.length_singleton] at ih
    refine s_Log_writeKind_4 _ _ _ _ ?_
    rw [e_slen (d := d + 2) (j := 10) hS (by omega)]
    refine (brP_f (by rw [z32_le] <;> omega)).mpr ?_
    rw [e_chat (d := d) (j := 10) hS (by omega) (by omega)]
    have ec : (sL 10).getD pre.length 0 = c := by rw [List.getD_eq_getElem?_getD, hp, get_mid]; rfl
    rw [ec, z32_s]
    have ek : wkL kd (c :: xs) w = if c = 32 then wkL kd xs (w + 1) else if w = kd then c :: wkL kd xs w else wkL kd xs w := rfl
    rw [ek] at hl k
    refine brP_i (fun q => ?_) (fun q => ?_)
    · rw [if_neg q] at hl k
      refine brP_i (fun q2 => ?_) (fun q2 => ?_)
      · have q2 : w ≠ kd := fun c => q2 (by rw [c])
        rw [if_neg q2] at hl k
        exact ih I t w _ hS (by omega) hW hl k
      · have q2 : w = kd := (z32_eN (by omega) (by omega)).mp (Classical.not_not.mp q2)
        rw [if_pos q2] at hl k
        rw [List.length_cons] at hl
        refine c_wsign hW (by omega) (fun I2 f2 w2 => ?_)
        refine ih I2 _ w _ (hS.wr f2) (by omega) w2 (by rw [List.length_append, List.length_singleton]; omega) (fun I3 f3 w3 => k I3 (f2.tr f3) ?_)
        rw [List.append_assoc] at w3
        exact w3
    · rw [if_pos (Classical.not_not.mp q)] at hl k
      rw [z32_s]
      exact ih I t (w + 1) _ hS (by omega) hW hl k
theorem c_wkind {d : Nat} {I : IM} {D : DY} {K : IM → Prop} {t : Tx} {kd : Nat} (hk : kd < 9) (hS : SOK I) (h : WL I t) (hl : t.length + 6 ≤ 80) (k : ∀ I2, WR I I2 → WL I2 (t ++ kindW.getD kd []) → K I2) : CV (d + 4) 104 [vR (some 55), vI (z32 (kd : Int))] (mm I D) K := by
  obtain ⟨e1, e2⟩ := wkL_ok kd hk
  rw [← e1] at k
  exact s_Log_writeKind _ (kind_loop (d := d) hk (sL 10) [] I t 0 _ hS rfl (Nat.le_refl _) h (by omega) (fun I2 f2 w2 => qV_i (k I2 f2 w2)))
/-- the text of the event at a position -/
def txV (p : Nat) (e : EV) : Tx := nuV (z32 (p : Int)) ++ [58] ++ kindW.getD (eK e) [] ++ [32] ++ nuV (z32 (eS e : Int)) ++ [46] ++ nuV (z32 (eV e : Int)) ++ [32] ++ [97] ++ [61] ++ nuV (eA e) ++ [32] ++ [98] ++ [61] ++ nuV (eB e) ++ [32] ++ [102] ++ nuV (z32 (eF e : Int))
theorem nu3 : ∀ v : Nat, v ≤ 240 → (nuV (z32 (v : Int))).length ≤ 3 := by decide +kernel
theorem kindW_len : ∀ k : Nat, k < 9 → (kindW.getD k []).length ≤ 6 := by decide +kernel
theorem LG.wr {I I2 : IM} {L : List EV} (h : LG 55 I L) (hf : WR I I2) : LG 55 I2 L := h.fr (hf _ _ (by omega)) (fun k => hf _ _ (by omega)) (fun k => hf _ _ (by omega))
theorem WL.len {I : IM} {t : Tx} (h : WL I t) : t.length ≤ 80 := h.2.1
theorem txV_len {p : Nat} {e : EV} (hp : p ≤ 240) (h1 : eS e ≤ 240) (h2 : eK e < 9) (h3 : eV e ≤ 240) (h4 : eF e ≤ 240) : (txV p e).length ≤ 80 := by
  have a1 := nu3 p hp
  have a2 := nu3 _ h1
  have a3 := nu3 _ h3
  have a4 := nu3 _ h4
  have a5 := nuV_len (eA e)
  have a6 := nuV_len (eB e)
  have a7 := kindW_len _ h2
  unfold txV
  simp only [List.length_append, List.length_singleton]
  omega
theorem c_write {d : Nat} {I : IM} {D : DY} {K : Int32 → IM → Prop} {C : CF} {L : List EV} {i : Nat} {e : EV} (hS : SOK I) (hL : LG 55 I L) (he : L[i]? = some e) (ho : okEv C e) (hc : CWF C) (hv : eV e ≤ 240)
    (k : ∀ I2, WR I I2 → WL I2 (txV (i + 1) e) → K (z32 ((txV (i + 1) e).length : Int)) I2) : CI (d + 5) 101 [vR (some 55), vI (z32 ((i + 1 : Nat) : Int))] (mm I D) K := by
  have hi := lt_of_get he
  have h240 := hL.2.1
  obtain ⟨o1, o2, o3, o4⟩ := ho
  have hf := hc.1 _ o2
  have a1 := nu3 (i + 1) (by omega)
  have a2 := nu3 (eS e) (by omega)
  have a3 := nu3 (eV e) hv
  have a4 := nu3 (eF e) (by omega)
  have a5 := nuV_len (eA e)
  have a6 := nuV_len (eB e)
  have a7 := kindW_len _ o2
  refine s_Log_write _ ?_
  have f0 : WR I (up2 I 55 3 0) := fun q j hq => if_neg (fun c => hq (Or.inl c))
  have w0 : WL (up2 I 55 3 0) [] := ⟨up2_eq, Nat.zero_le _, fun j hj => absurd hj (Nat.not_lt_zero j)⟩
  refine c_wnum (d := d + 3) w0 (by simp) (fun I1 f1 w1 => ?_)
  rw [List.nil_append] at w1
  have g1 := f0.tr f1
  refine c_wsign w1 (by omega) (fun I2 f2 w2 => ?_)
  have g2 := g1.tr f2
  rw [e_lg (d := d + 2) (hL.wr g2) he (c := 2) (lit := 2) (by omega) rfl]
  refine c_wkind (d := d) o2 (hS.wr g2) w2 (by simp only [List.length_append, List.length_singleton]; omega) (fun I3 f3 w3 => ?_)
  have g3 := g2.tr f3
  refine c_wsign w3 (by simp only [List.length_append, List.length_singleton]; omega) (fun I4 f4 w4 => ?_)
  have g4 := g3.tr f4
  rw [e_lg (d := d + 2) (hL.wr g4) he (c := 0) (lit := 0) (by omega) rfl]
  refine c_wnum (d := d + 3) w4 (by simp only [List.length_append, List.length_singleton]; omega) (fun I5 f5 w5 => ?_)
  have g5 := g4.tr f5
  refine c_wsign w5 (by simp only [List.length_append, List.length_singleton, colE]; omega) (fun I6 f6 w6 => ?_)
  have g6 := g5.tr f6
  rw [e_lg (d := d + 2) (hL.wr g6) he (c := 1) (lit := 1) (by omega) rfl]
  refine c_wnum (d := d + 3) w6 (by simp only [List.length_append, List.length_singleton, colE]; omega) (fun I7 f7 w7 => ?_)
  have g7 := g6.tr f7
  refine c_wsign w7 (by simp only [List.length_append, List.length_singleton, colE]; omega) (fun I8 f8 w8 => ?_)
  refine c_wsign w8 (by simp only [List.length_append, List.length_singleton, colE]; omega) (fun I9 f9 w9 => ?_)
  refine c_wsign w9 (by simp only [List.length_append, List.length_singleton, colE]; omega) (fun I10 f10 w10 => ?_)
  have g10 := ((g7.tr f8).tr f9).tr f10
  rw [e_lg (d := d + 2) (hL.wr g10) he (c := 4) (lit := 4) (by omega) rfl]
  refine c_wnum (d := d + 3) w10 (by simp only [List.length_append, List.length_singleton, colE]; omega) (fun I11 f11 w11 => ?_)
  have g11 := g10.tr f11
  refine c_wsign w11 (by simp only [List.length_append, List.length_singleton, colE]; omega) (fun I12 f12 w12 => ?_)
  refine c_wsign w12 (by simp only [List.length_append, List.length_singleton, colE]; omega) (fun I13 f13 w13 => ?_)
  refine c_wsign w13 (by simp only [List.length_append, List.length_singleton, colE]; omega) (fun I14 f14 w14 => ?_)
  have g14 := ((g11.tr f12).tr f13).tr f14
  rw [e_lg (d := d + 2) (hL.wr g14) he (c := 5) (lit := 5) (by omega) rfl]
  refine c_wnum (d := d + 3) w14 (by simp only [List.length_append, List.length_singleton, colE]; omega) (fun I15 f15 w15 => ?_)
  have g15 := g14.tr f15
  refine c_wsign w15 (by simp only [List.length_append, List.length_singleton, colE]; omega) (fun I16 f16 w16 => ?_)
  refine c_wsign w16 (by simp only [List.length_append, List.length_singleton, colE]; omega) (fun I17 f17 w17 => ?_)
  have g17 := (g15.tr f16).tr f17
  rw [e_lg (d := d + 2) (hL.wr g17) he (c := 3) (lit := 3) (by omega) rfl]
  refine c_wnum (d := d + 3) w17 (by simp only [List.length_append, List.length_singleton, colE]; omega) (fun I18 f18 w18 => qI_i ?_)
  rw [w18.1]
  exact k I18 (g17.tr f18) w18
theorem e_written {d : Nat} {I : IM} {D : DY} {K : Int32 → IM → Prop} {t : Tx} {j : Nat} (h : WL I t) (hj : j < t.length) : CI d 105 [vR (some 55), vI (z32 (j : Int))] (mm I D) K ↔ K (t.getD j 0) I := by
  have h80 := h.2.1
  refine CI_iff (s_Log_written _ ((brP_f (by rw [z32_0, z32_lt] <;> omega)).mpr ?_))
  rw [h.1]
  refine (brP_f (by rw [z32_le] <;> omega)).mpr ((brP_f (by show ¬ z32 80 ≤ _; rw [z32_le] <;> omega)).mpr (tsP_i (inB_n (by omega) (by omega)) (qI_i ⟨?_, rfl⟩)))
  rw [ix_n (by omega)]
  exact h.2.2 j hj
/-- the digest of texts -/
def dgT (d : Int32) (t : Tx) : Int32 := t.foldl (fun d c => d * 31 + c) d
def dgL : List EV → Nat → Int32 → Int32
  | [], _, d => d
  | e :: l, p, d => dgL l (p + 1) (dgT d (txV p e))
theorem dig_in {d : Nat} {D : DY} {Q : Option PV → PM → Prop} {I : IM} {t : Tx} {p1 l3 : Int32} (h : WL I t) : ∀ (xs pre : Tx) (dg : Int32), t = pre ++ xs → Wp GG (d + 1) 152 27 [vR (some 45), vI p1, vI (dgT dg xs), vI (l3 + 1), vI (z32 (t.length : Int)), vI (z32 (t.length : Int))] [] (mm I D) Q →
    Wp GG (d + 1) 152 48 [vR (some 45), vI p1, vI dg, vI l3, vI (z32 (t.length : Int)), vI (z32 (pre.length : Int))] [] (mm I D) Q := by
  have h80 := h.2.1
  intro xs
  induction xs with
  | nil =>
    intro pre dg hp k
    have e : t.length = pre.length := by rw [hp, List.append_nil]
    refine s_S_digest_48 _ _ _ _ _ ((brP_t (by rw [z32_le] <;> omega)).mpr ?_)
    rw [← e]
    exact k
  | cons c xs ih =>
    intro pre dg hp k
    have e : t.length = pre.length + (xs.length + 1) := by rw [hp, List.length_append, List.length_cons]
    have ih := fun dg => ih (pre ++ [c]) dg (by rw [hp, List.append_assoc]; rfl)
    rw [List.length_append, List.length_singleton] at ih
    refine s_S_digest_48 _ _ _ _ _ ((brP_f (by rw [z32_le] <;> omega)).mpr ?_)
    rw [e_written h (by omega), z32_s]
    have ec : t.getD pre.length 0 = c := by rw [List.getD_eq_getElem?_getD, hp, get_mid]; rfl
    rw [ec]
    exact ih _ k
theorem dig_out {d : Nat} {D : DY} {K : Int64 → IM → Prop} {C : CF} {L : List EV} {n : Nat} (hn : n ≤ L.length) (ho : ∀ e ∈ L, okEv C e) (hc : CWF C) (hv : ∀ e ∈ L, eV e ≤ 240) : ∀ (g i : Nat) (I0 I : IM) (dg : Int32) (w4 w5 : PV), i + g = n → SOK I → LG 55 I L → WR I0 I →
    (∀ I2, WR I0 I2 → K ((dgL ((L.drop i).take g) (i + 1) dg).toInt64 &&& 4294967295) I2) → Wp GG (d + 6) 152 27 [vR (some 45), vI (z32 (n : Int)), vI dg, vI (z32 ((i + 1 : Nat) : Int)), w4, w5] [] (mm I D) (qL (mm I0 D) K) := by
  intro g
  induction g with
  | zero =>
    intro i I0 I dg w4 w5 hi hS hL hr k
    have h240 := hL.2.1
    exact s_S_digest_27 _ _ _ _ _ ((brP_t (by rw [z32_lt] <;> omega)).mpr (qL_i (k I hr)))
  | succ g ih =>
    intro i I0 I dg w4 w5 hi hS hL hr k
    have h240 := hL.2.1
    obtain ⟨e, he⟩ : ∃ e, L[i]? = some e := ⟨L[i]'(by omega), List.getElem?_eq_getElem (by omega)⟩
    have hm := List.mem_of_getElem? he
    have ed : (L.drop i).take (g + 1) = e :: (L.drop (i + 1)).take g := by
      rw [List.drop_eq_getElem_cons (by omega), List.take_succ_cons]
      congr 1
      rw [List.getElem?_eq_getElem (by omega)] at he
      exact Option.some.inj he
    rw [ed] at k
    refine s_S_digest_27 _ _ _ _ _ ((brP_f (by rw [z32_lt] <;> omega)).mpr ?_)
    refine c_write (d := d) hS hL he (ho e hm) hc (hv e hm) (fun I2 f2 w2 => ?_)
    refine dig_in (d := d + 5) w2 (txV (i + 1) e) [] dg (List.nil_append _).symm ?_
    rw [z32_s]
    exact ih (i + 1) I0 I2 _ _ _ (by omega) (hS.wr f2) (hL.wr f2) (hr.tr f2) k
