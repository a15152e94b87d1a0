/-! The tape of the class, and what reads it. -/
abbrev PS : Type := Tx ⊕ Nat
def aft {α : Type} (r : PR α) : PS := match r with
  | .inl (_, s) => .inl s
  | .inr m => .inr m
def sq {α : Type} (r : PS) (X : Tx → PR α) : PR α := match r with
  | .inl s => X s
  | .inr m => .inr m
/-- s is what stands on T behind some place -/
def sfx (s T : Tx) : Prop := s.length ≤ T.length ∧ s = T.drop (T.length - s.length)
theorem sfx.self (T : Tx) : sfx T T := ⟨Nat.le_refl _, by rw [Nat.sub_self]; rfl⟩
theorem sfx.drop {s T : Tx} (h : sfx s T) (k : Nat) : sfx (s.drop k) T := by
  obtain ⟨h1, h2⟩ := h
  refine ⟨by rw [List.length_drop]; omega, ?_⟩
  rcases Nat.lt_or_ge s.length k with q | q
  · rw [List.drop_eq_nil_of_le (by omega)]
    simp
  · have e : T.drop (T.length - s.length + k) = s.drop k := by rw [← List.drop_drop, ← h2]
    rw [← e]
    congr 1
    rw [List.length_drop]
    omega
theorem sfx.tail {x : Int32} {t T : Tx} (h : sfx (x :: t) T) : sfx t T := h.drop 1
theorem sfx.get {s T : Tx} (h : sfx s T) {k : Nat} (hk : k < s.length) : T.getD (T.length - s.length + k) 0 = s.getD k 0 := by
  obtain ⟨h1, h2⟩ := h
  have e : s.getD k 0 = (T.drop (T.length - s.length)).getD k 0 := congrArg (fun q : Tx => q.getD k 0) h2
  rw [e, List.getD_eq_getElem?_getD, List.getD_eq_getElem?_getD, List.getElem?_drop]
theorem sfx.head {x : Int32} {t T : Tx} (h : sfx (x :: t) T) : T.getD (T.length - (t.length + 1)) 0 = x := by
  have := h.get (k := 0) (by simp)
  simpa using this
/-- the tape's bytes and how many -/
def TP (I : IM) (T : Tx) : Prop := I 46 4 = z32 (T.length : Int) ∧ T.length ≤ 160 ∧ (∀ k, k < T.length → I 47 k = T.getD k 0) ∧ ∀ x ∈ T, 1 ≤ x.toInt ∧ x.toInt ≤ 255
def plC (T : Tx) (r : PS) : Int := match r with
  | .inl s => (T.length : Int) - s.length
  | .inr _ => T.length
def flC (T : Tx) (r : PS) : Int := match r with
  | .inl _ => -1
  | .inr m => (T.length : Int) - m
def okC2 (T : Tx) (r : PS) : Prop := match r with
  | .inl s => sfx s T
  | .inr m => m ≤ T.length
def PC (I : IM) (T : Tx) (r : PS) : Prop := TP I T ∧ okC2 T r ∧ I 46 5 = z32 (plC T r) ∧ I 46 6 = z32 (flC T r)
/-- what reading may change -/
def PFr (I I2 : IM) : Prop := ∀ a k, (a = 46 → k ≠ 5 ∧ k ≠ 6) → I2 a k = I a k
theorem PFr.rf {I : IM} : PFr I I := fun _ _ _ => rfl
theorem PFr.tr {I I2 I3 : IM} (h : PFr I I2) (h2 : PFr I2 I3) : PFr I I3 := fun a k h1 => (h2 a k h1).trans (h a k h1)
theorem PFr.up {I : IM} {k : Nat} {v : Int32} (hk : k = 5 ∨ k = 6) : PFr I (up2 I 46 k v) := fun a j h => by
  by_cases e : a = 46
  · subst e
    exact up2_nj (by have := h rfl; omega)
  · exact up2_ne e
theorem TP.fr {I I2 : IM} {T : Tx} (h : TP I T) (hf : PFr I I2) : TP I2 T := by
  obtain ⟨h1, h2, h3, h4⟩ := h
  exact ⟨by rw [hf 46 4 (fun _ => by omega)]; exact h1, h2, fun k hk => by rw [hf 47 k (fun q => by omega)]; exact h3 k hk, h4⟩
theorem SOK.fr {I I2 : IM} (h : SOK I) (hf : PFr I I2) : SOK I2 := fun j hj => ⟨by rw [hf _ _ (fun q => by omega)]; exact (h j hj).1, fun k hk => by rw [hf _ _ (fun q => by omega)]; exact (h j hj).2 k hk⟩
theorem PC.set {I : IM} {T : Tx} (h : TP I T) {r : PS} (hr : okC2 T r) {I2 : IM} (hf : PFr I I2) (h1 : I2 46 5 = z32 (plC T r)) (h2 : I2 46 6 = z32 (flC T r)) : PC I2 T r := ⟨h.fr hf, hr, h1, h2⟩
theorem PC.pl {I : IM} {T : Tx} {r : PS} (h : PC I T r) : 0 ≤ plC T r ∧ plC T r ≤ T.length ∧ (T.length : Int) ≤ 160 ∧ -1 ≤ flC T r ∧ flC T r ≤ T.length := by
  obtain ⟨⟨-, h1, -⟩, h2, -⟩ := h
  cases r with
  | inl s => have := h2.1; simp only [plC, flC]; omega
  | inr m => have : m ≤ T.length := h2; simp only [plC, flC]; omega
theorem z32_m1 : (-1 : Int32) = z32 (-1) := rfl
def pkV (r : PS) : Int32 := match r with
  | .inl (x :: _) => x
  | _ => 0
theorem e_peek {d : Nat} {I : IM} {D : DY} {K : Int32 → IM → Prop} {T : Tx} {r : PS} (h : PC I T r) : CI d 27 [vR (some 46)] (mm I D) K ↔ K (pkV r) I := by
  have hb := h.pl
  obtain ⟨⟨t1, t2, t3, t4⟩, h2, h3, h4⟩ := h
  refine CI_iff (s_Tape_peek ?_)
  simp (disch := omega) only [brP_iff, tsP_iff, qI_iff, h3, t1, z32_lit, z32_lt, z32_le, inB, ix_z, z32_toInt]
  refine ⟨fun hc => absurd hc (by omega), fun _ => ⟨fun hc => ?_, fun hc => ⟨fun hc => absurd hc (by omega), fun _ => ⟨by omega, ?_⟩⟩⟩⟩
  · cases r with
    | inr m => and_intros <;> first | trivial | rfl
    | inl s =>
      cases s with
      | nil => and_intros <;> first | trivial | rfl
      | cons x t =>
        have hl : (x :: t).length ≤ T.length := h2.1
        simp only [plC, List.length_cons] at hc hl
        omega
  · cases r with
    | inr m =>
      simp only [plC] at hc
      omega
    | inl s =>
      cases s with
      | nil =>
        simp only [plC, List.length_nil] at hc
        omega
      | cons x t =>
        have hs : sfx (x :: t) T := h2
        have hl : t.length + 1 ≤ T.length := hs.1
        have e1 : (plC T (.inl (x :: t))).toNat = T.length - (t.length + 1) := by simp only [plC, List.length_cons]; omega
        rw [e1, t3 _ (by omega), hs.head]
        and_intros <;> first | trivial | rfl
def flR (m : Nat) (r : PS) : PS := match r with
  | .inl _ => .inr m
  | .inr q => .inr q
/-- a fault at the place (or, in a text that has one, none) -/
theorem c_fail {d : Nat} {I : IM} {D : DY} {K : IM → Prop} {T : Tx} {r : PS} (h : PC I T r) {w : Int32} {m : Nat} (hw : ∀ s, r = .inl s → w = z32 ((T.length : Int) - m) ∧ m ≤ T.length)
    (k : ∀ I2, PFr I I2 → PC I2 T (flR m r) → K I2) : CV d 24 [vR (some 46), vI w] (mm I D) K := by
  have hb := h.pl
  obtain ⟨ht, h2, h3, h4⟩ := h
  have t1 := ht.1
  refine s_Tape_fail _ ?_
  cases r with
  | inl s =>
    obtain ⟨rfl, hm⟩ := hw s rfl
    have e : I 46 6 = -1 := by rw [h4]; rfl
    rw [brP_f (by rw [e]; simp)]
    refine qV_i (k _ ((PFr.up (by omega)).tr (PFr.up (by omega))) (PC.set (r := .inr m) ht hm ((PFr.up (by omega)).tr (PFr.up (by omega))) ?_ ?_))
    · rw [up2_eq]
      exact t1
    · rw [up2_nj (by omega), up2_eq]
      rfl
  | inr q =>
    have hq : q ≤ T.length := h2
    rw [brP_t (by
      rw [h4]
      show ¬ z32 ((T.length : Int) - q) = z32 (-1)
      rw [z32_inj] <;> omega)]
    refine qV_i (k _ (PFr.up (by omega)) (PC.set (r := .inr q) ht h2 (PFr.up (by omega)) ?_ ?_))
    · rw [up2_eq]
      exact t1
    · rw [up2_nj (by omega)]
      exact h4
def lnR (r : PS) : Nat := match r with
  | .inl s => s.length
  | .inr m => m
theorem flR_tk {c : Int32} {r : PS} (h : pkV r ≠ c ∨ c = 0) (T : Tx) (hr : okC2 T r) (hT : ∀ x ∈ T, 1 ≤ x.toInt) : aft (sq r (tkP c)) = flR (lnR r) r := by
  cases r with
  | inr m => rfl
  | inl s =>
    cases s with
    | nil => rfl
    | cons x t =>
      have hx : x ≠ c := by
        rcases h with h | rfl
        · exact h
        · rintro rfl
          have hs : sfx (0 :: t) T := hr
          have : (0 : Int32) ∈ T := by
            have e := hs.2
            exact List.mem_of_mem_drop (e ▸ List.mem_cons_self)
          have := hT _ this
          simp at this
      show aft (if x = c then _ else _) = _
      rw [if_neg hx]
      rfl
/-- the place one further -/
theorem PC.next {I : IM} {T : Tx} {x : Int32} {t : Tx} (h : PC I T (.inl (x :: t))) : PC (up2 I 46 5 (I 46 5 + 1)) T (.inl t) := by
  obtain ⟨ht, h2, h3, h4⟩ := h
  have hs : sfx (x :: t) T := h2
  have hl : t.length + 1 ≤ T.length := hs.1
  refine PC.set (r := .inl t) ht hs.tail (PFr.up (by omega)) ?_ ?_
  · rw [up2_eq, h3]
    show z32 _ + z32 1 = _
    rw [z32_add]
    simp only [plC, List.length_cons]
    congr 1
    omega
  · rw [up2_nj (by omega)]
    exact h4
theorem pk_cons {r : PS} {c : Int32} (h : pkV r = c) (hc : c ≠ 0) : ∃ t, r = .inl (c :: t) := by
  rcases r with (_ | ⟨x, t⟩) | m
  · exact absurd h.symm hc
  · exact ⟨t, by rw [← h]; rfl⟩
  · exact absurd h.symm hc
theorem c_take {d : Nat} {I : IM} {D : DY} {K : IM → Prop} {T : Tx} {r : PS} (h : PC I T r) {c : Int32} (hc : c ≠ 0) (k : ∀ I2, PFr I I2 → PC I2 T (aft (sq r (tkP c))) → K I2) : CV (d + 1) 26 [vR (some 46), vI c] (mm I D) K := by
  refine s_Tape_take _ ?_
  rw [e_peek h]
  refine brP_i (fun hq => ?_) (fun hq => ?_)
  · refine c_fail h (m := lnR r) (fun s hs => ?_) (fun I2 hf hP => qV_i (k I2 hf ?_))
    · subst hs
      exact ⟨h.2.2.1, h.2.1.1⟩
    · rw [flR_tk (Or.inl hq) T h.2.1 (fun x hx => (h.1.2.2.2 x hx).1)]
      exact hP
  · obtain ⟨t, rfl⟩ := pk_cons (Classical.not_not.mp hq) hc
    refine qV_i (k _ (PFr.up (by omega)) ?_)
    have e : aft (sq (.inl (c :: t)) (tkP c)) = .inl t := by
      show aft (if c = c then _ else _) = _
      rw [if_pos rfl]
      rfl
    rw [e]
    exact h.next
theorem e_isFig {d : Nat} {I : IM} {D : DY} {K : Int32 → IM → Prop} (x : Int32) : CI d 31 [vI x] (mm I D) K ↔ K (b32 (digB x = true)) I := by
  refine CI_iff (s_Tape_isFigure _ ?_)
  simp only [brP_iff, qI_iff, and_true]
  have hd : digB x = true ↔ 48 ≤ x ∧ x ≤ 57 := by unfold digB; rw [Bool.and_eq_true, decide_eq_true_eq, decide_eq_true_eq]
  refine ⟨fun h => ?_, fun h => ⟨fun h2 => ?_, fun h2 => ?_⟩⟩
  · exact (if_neg (fun q => absurd (hd.mp q).1 (Int32.not_le.mpr h))).symm
  · exact (if_neg (fun q => absurd (hd.mp q).2 (Int32.not_le.mpr h2))).symm
  · exact (if_pos (hd.mpr ⟨Int32.not_lt.mp h, Int32.not_lt.mp h2⟩)).symm
theorem c_begin {d : Nat} {I : IM} {D : DY} {K : IM → Prop} {T : Tx} (h : TP I T) (k : ∀ I2, PFr I I2 → PC I2 T (.inl T) → K I2) : CV d 16 [vR (some 46)] (mm I D) K := by
  refine s_Tape_begin (qV_i (k _ ((PFr.up (by omega)).tr (PFr.up (by omega))) (PC.set (r := .inl T) h (sfx.self T) ((PFr.up (by omega)).tr (PFr.up (by omega))) ?_ ?_)))
  · rw [up2_nj (by omega), up2_eq]
    simp only [plC, Int.sub_self]
    rfl
  · rw [up2_eq]
    rfl
/-- the end: what the fault of the whole is -/
def endR (r : PS) : PS := match r with
  | .inl [] => .inl []
  | .inl (x :: s) => .inr (s.length + 1)
  | .inr m => .inr m
theorem c_end {d : Nat} {I : IM} {D : DY} {K : Int32 → IM → Prop} {T : Tx} {r : PS} (h : PC I T r) (k : ∀ x I2, (∀ a j, (a = 46 → j ≠ 4 ∧ j ≠ 5 ∧ j ≠ 6) → I2 a j = I a j) → I2 46 4 = 0 → x = z32 (flC T (endR r)) → K x I2) : CI (d + 1) 45 [vR (some 46)] (mm I D) K := by
  have hb := h.pl
  have ht := h.1
  refine s_Tape_end ?_
  rw [h.2.2.1, ht.1]
  refine brP_i (fun hq => ?_) (fun hq => ?_)
  · refine qI_i (k _ _ (fun a j h3 => ?_) up2_eq ?_)
    · by_cases e : a = 46
      · exact up2_nj (by have := h3 e; omega)
      · exact up2_ne e
    · rw [h.2.2.2]
      congr 1
      rcases r with (_ | ⟨x, t⟩) | m
      · rfl
      · rw [z32_le (by omega) (by omega) (by omega) (by omega)] at hq
        simp only [plC, List.length_cons] at hq
        have : t.length + 1 ≤ T.length := h.2.1.1
        omega
      · rfl
  · have hne : ∃ x t, r = .inl (x :: t) := by
      rw [z32_le (by omega) (by omega) (by omega) (by omega)] at hq
      rcases r with (_ | ⟨x, t⟩) | m
      · simp only [plC, List.length_nil] at hq
        omega
      · exact ⟨x, t, rfl⟩
      · simp only [plC] at hq
        omega
    obtain ⟨x, t, rfl⟩ := hne
    have hl : t.length + 1 ≤ T.length := h.2.1.1
    refine c_fail h (m := t.length + 1) (fun s hs => ⟨?_, hl⟩) (fun I2 hf hP => ?_)
    · simp only [plC, List.length_cons]
    · refine qI_i (k _ _ (fun a j h3 => ?_) up2_eq ?_)
      · by_cases e : a = 46
        · rw [up2_nj (by have := h3 e; omega)]
          exact hf a j (fun _ => by have := h3 e; omega)
        · rw [up2_ne e]
          exact hf a j (fun q => absurd q e)
      · exact hP.2.2.2
theorem z32_of (x : Int32) : x = z32 x.toInt := by
  unfold z32
  rw [Int32.ofInt_toInt]
theorem i32_b (x : Int32) : -2147483648 ≤ x.toInt ∧ x.toInt ≤ 2147483647 := by
  obtain ⟨n, rfl, h1, h2⟩ := z32_all x
  rw [z32_toInt h1 h2]
  exact ⟨h1, h2⟩
theorem lt_lit {x : Int32} {n : Int} (h1 : -2147483648 ≤ n) (h2 : n ≤ 2147483647) : x < z32 n ↔ x.toInt < n := by
  rw [Int32.lt_iff_toInt_lt, z32_toInt h1 h2]
theorem lit_lt {x : Int32} {n : Int} (h1 : -2147483648 ≤ n) (h2 : n ≤ 2147483647) : z32 n < x ↔ n < x.toInt := by
  rw [Int32.lt_iff_toInt_lt, z32_toInt h1 h2]
theorem le_lit {x : Int32} {n : Int} (h1 : -2147483648 ≤ n) (h2 : n ≤ 2147483647) : x ≤ z32 n ↔ x.toInt ≤ n := by
  rw [Int32.le_iff_toInt_le, z32_toInt h1 h2]
theorem lit_le {x : Int32} {n : Int} (h1 : -2147483648 ≤ n) (h2 : n ≤ 2147483647) : z32 n ≤ x ↔ n ≤ x.toInt := by
  rw [Int32.le_iff_toInt_le, z32_toInt h1 h2]
theorem lowB_iff (x : Int32) : lowB x = true ↔ 97 ≤ x.toInt ∧ x.toInt ≤ 122 := by
  unfold lowB
  rw [Bool.and_eq_true, decide_eq_true_eq, decide_eq_true_eq]
  exact and_congr (lit_le (n := 97) (by omega) (by omega)) (le_lit (n := 122) (by omega) (by omega))
theorem digB_iff (x : Int32) : digB x = true ↔ 48 ≤ x.toInt ∧ x.toInt ≤ 57 := by
  unfold digB
  rw [Bool.and_eq_true, decide_eq_true_eq, decide_eq_true_eq]
  exact and_congr (lit_le (n := 48) (by omega) (by omega)) (le_lit (n := 57) (by omega) (by omega))
theorem wdOf_cons (x : Int32) (t : Tx) : wdOf (x :: t) = if lowB x = true then x :: wdOf t else [] := by
  unfold wdOf
  rw [List.takeWhile_cons]
theorem wdOf_len (s : Tx) : (wdOf s).length ≤ s.length := List.Sublist.length_le (List.takeWhile_sublist _)
theorem wend_loop {d : Nat} {I : IM} {D : DY} {T : Tx} (ht : TP I T) : ∀ (s : Tx), sfx s T → Wp GG d 19 5 [vR (some 46), vI (z32 ((T.length : Int) - s.length))] [] (mm I D) (qI (mm I D) (fun x I2 => x = z32 ((T.length : Int) - s.length + (wdOf s).length) ∧ I2 = I)) := by
  intro s
  induction s with
  | nil =>
    intro hs
    refine s_Tape_wordEnd_5 _ ?_
    rw [ht.1]
    refine brP_i (fun _ => qI_i ⟨?_, rfl⟩) (fun hq => absurd ?_ hq)
    · simp [wdOf]
    · have h160 := ht.2.1
      have h0 : ([] : Tx).length = 0 := rfl
      rw [h0, z32_le] <;> omega
  | cons x t ih =>
    intro hs
    have hl : t.length + 1 ≤ T.length := hs.1
    have h160 := ht.2.1
    refine s_Tape_wordEnd_5 _ ?_
    rw [ht.1]
    have e1 : (T.length : Int) - (x :: t).length = ((T.length - (t.length + 1) : Nat) : Int) := by rw [List.length_cons]; omega
    have hx : I 47 (T.length - (t.length + 1)) = x := by rw [ht.2.2.1 _ (by omega), hs.head]
    rw [e1]
    refine brP_i (fun hq => ?_) (fun _ => brP_i (fun hq => ?_) (fun _ => tsP_i ?_ ?_))
    · rw [z32_le] at hq <;> omega
    · have : z32 160 ≤ z32 ((T.length - (t.length + 1) : Nat) : Int) := hq
      rw [z32_le] at this <;> omega
    · show 0 ≤ _ ∧ _
      rw [z32_toInt (by omega) (by omega)]
      omega
    · rw [ix_n (by omega), hx, wdOf_cons]
      refine brP_i (fun hq => qI_i ⟨?_, rfl⟩) (fun hq => tsP_i ?_ (brP_i (fun hq2 => qI_i ⟨?_, rfl⟩) (fun hq2 => ?_)))
      · have hq : x < z32 97 := hq
        rw [lt_lit (by omega) (by omega)] at hq
        rw [if_neg (by rw [lowB_iff]; omega)]
        simp
      · show 0 ≤ _ ∧ _
        rw [z32_toInt (by omega) (by omega)]
        omega
      · have hq2 : z32 122 < x := hq2
        rw [lit_lt (by omega) (by omega)] at hq2
        rw [if_neg (by rw [lowB_iff]; omega)]
        simp
      · have hq : ¬ x < z32 97 := hq
        have hq2 : ¬ z32 122 < x := hq2
        rw [lt_lit (by omega) (by omega)] at hq
        rw [lit_lt (by omega) (by omega)] at hq2
        rw [if_pos (by rw [lowB_iff]; omega)]
        have e2 : z32 ((T.length - (t.length + 1) : Nat) : Int) + 1 = z32 ((T.length : Int) - t.length) := by
          show _ + z32 1 = _
          rw [z32_add]
          congr 1
          omega
        rw [e2]
        have e3 : ((T.length - (t.length + 1) : Nat) : Int) + ((x :: wdOf t).length : Int) = (T.length : Int) - t.length + (wdOf t).length := by rw [List.length_cons]; omega
        rw [e3]
        exact ih hs.tail
def wdR (r : PS) : Tx := match r with
  | .inl s => wdOf s
  | .inr _ => []
theorem e_wordEnd {d : Nat} {I : IM} {D : DY} {K : Int32 → IM → Prop} {T : Tx} {r : PS} (h : PC I T r) : CI d 19 [vR (some 46)] (mm I D) K ↔ K (z32 (plC T r + (wdR r).length)) I := by
  refine CI_iff (s_Tape_wordEnd ?_)
  rw [h.2.2.1]
  cases r with
  | inl s => exact wend_loop h.1 s h.2.1
  | inr m =>
    have := wend_loop (d := d) (D := D) h.1 [] (by refine ⟨Nat.zero_le _, ?_⟩; simp)
    simpa [plC, wdR, wdOf] using this
theorem dgV_snoc (ds : Tx) (x : Int32) : dgV (ds ++ [x]) = dgV ds * 10 + (x.toInt - 48) := by
  unfold dgV
  rw [List.foldl_append]
  rfl
theorem dgV_b : ∀ (n : Nat) (ds : Tx), ds.length = n → ds.all digB = true → 0 ≤ dgV ds ∧ dgV ds < 10 ^ n := by
  intro n
  induction n with
  | zero =>
    intro ds h _
    rw [List.eq_nil_of_length_eq_zero h]
    exact ⟨Int.le_refl _, by decide⟩
  | succ n ih =>
    intro ds h ha
    obtain ⟨l, x, rfl⟩ : ∃ l x, ds = l ++ [x] := by
      have hne : ds ≠ [] := by intro e; rw [e] at h; cases h
      exact ⟨ds.dropLast, ds.getLast hne, (List.dropLast_concat_getLast hne).symm⟩
    rw [List.all_append, Bool.and_eq_true] at ha
    have h2 := ih l (by simpa using h) ha.1
    have hx : digB x = true := by simpa using ha.2
    rw [digB_iff] at hx
    rw [dgV_snoc, Int.pow_succ]
    omega
theorem dgOf_eq {s : Tx} {f : Nat} (hf : f ≤ 4) (hl : f ≤ s.length) (ha : (s.take f).all digB = true) (hx : f = 4 ∨ ∀ x t, s.drop f = x :: t → digB x = false) : dgOf s = s.take f := by
  unfold dgOf
  have e : s.take 4 = s.take f ++ (s.drop f).take (4 - f) := by
    rw [← List.take_add]
    congr 1
    omega
  rw [e, List.takeWhile_append_of_pos (fun a h => List.all_eq_true.mp ha a h)]
  have : ((s.drop f).take (4 - f)).takeWhile digB = [] := by
    rcases hx with rfl | hx
    · rfl
    · cases hd : s.drop f with
      | nil => rw [List.take_nil]; rfl
      | cons x t =>
        rcases Nat.eq_or_lt_of_le hf with rfl | hlt
        · rfl
        · obtain ⟨k, hk⟩ : ∃ k, 4 - f = k + 1 := ⟨3 - f, by omega⟩
          rw [hk, List.take_succ_cons, List.takeWhile_cons, hx x t hd]
          rfl
  rw [this, List.append_nil]
