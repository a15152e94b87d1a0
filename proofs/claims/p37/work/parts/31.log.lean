/-! The log as written. -/
def colE (c : Nat) (e : EV) : Int32 := match c with
  | 0 => z32 (eS e : Int)
  | 1 => z32 (eV e : Int)
  | 2 => z32 (eK e : Int)
  | 3 => z32 (eF e : Int)
  | 4 => eA e
  | _ => eB e
def LG (o : Nat) (I : IM) (L : List EV) : Prop := I o 4 = z32 (L.length : Int) ∧ L.length ≤ 240 ∧ (∀ i e, L[i]? = some e → ∀ c, c < 6 → I (o + 1) ((i + 1) * 6 + c) = colE c e) ∧ ∀ s, s < 8 → I (o + 2) s = z32 (vrS L s : Int)
theorem LG.fr {o : Nat} {I I2 : IM} {L : List EV} (h : LG o I L) (h1 : I2 o 4 = I o 4) (h2 : ∀ k, I2 (o + 1) k = I (o + 1) k) (h3 : ∀ k, I2 (o + 2) k = I (o + 2) k) : LG o I2 L := ⟨h1.trans h.1, h.2.1, fun i e he c hc => (h2 _).trans (h.2.2.1 i e he c hc), fun s hs => (h3 _).trans (h.2.2.2 s hs)⟩
/-- what asking alone may change: texts written, bins in thought or of old, letters, stacks -/
def QFp (D : DY) (a k : Nat) : Prop := a = 58 ∨ a = 62 ∨ a = 67 ∨ a = 79 ∨ a = 53 ∨ (a = 55 ∧ k = 3) ∨ (a = 49 ∧ 4 ≤ k) ∨ (159 ≤ a ∧ dW D a = 2)
def QF (D : DY) (I I2 : IM) : Prop := ∀ a k, ¬ QFp D a k → I2 a k = I a k
theorem QF.rf {D : DY} {I : IM} : QF D I I := fun _ _ _ => rfl
theorem QF.tr {D : DY} {I I2 I3 : IM} (h : QF D I I2) (h2 : QF D I2 I3) : QF D I I3 := fun a k q => (h2 a k q).trans (h a k q)
theorem QF.at {D : DY} {I I2 : IM} (h : QF D I I2) {a k : Nat} (h1 : a < 159) (h2 : a ≠ 58 ∧ a ≠ 62 ∧ a ≠ 67 ∧ a ≠ 79 ∧ a ≠ 53 ∧ (a = 55 → k ≠ 3) ∧ (a = 49 → k < 4)) : I2 a k = I a k := h a k (fun q => by unfold QFp at q; omega)
theorem GF.q {D : DY} {I I2 : IM} (h : GF D I I2) : QF D I I2 := fun a k q => h a k (by
  by_cases e : a < 159
  · exact Or.inl e
  · exact Or.inr (fun e2 => q (by unfold QFp; omega)))
theorem QF.im {D : DY} {I I2 : IM} (h : QF D I I2) : IMF I I2 D := fun a k h1 h2 h3 => h a k (fun q => by unfold QFp at q; omega)
theorem QF.put {D : DY} {I : IM} {a k : Nat} {v : Int32} (h : QFp D a k) : QF D I (up2 I a k v) := fun b j hb => by
  by_cases e : b = a ∧ j = k
  · exact absurd (e.1 ▸ e.2 ▸ h) hb
  · exact if_neg e
theorem QF.row {D : DY} {I I2 : IM} {a : Nat} (h : ∀ q j, q ≠ a → I2 q j = I q j) (ha : a = 58 ∨ a = 62 ∨ a = 67 ∨ a = 79 ∨ a = 53) : QF D I I2 := fun b j hb => h b j (fun e => hb (by unfold QFp; omega))
theorem LG.qf {D : DY} {I I2 : IM} {L : List EV} (h : LG 55 I L) (hf : QF D I I2) : LG 55 I2 L := h.fr (hf.at (by omega) (by omega)) (fun k => hf.at (by omega) (by omega)) (fun k => hf.at (by omega) (by omega))
theorem lt_of_get {α : Type} {l : List α} {i : Nat} {x : α} (h : l[i]? = some x) : i < l.length := by
  rcases Nat.lt_or_ge i l.length with q | q
  · exact q
  · rw [List.getElem?_eq_none q] at h
    cases h
theorem b32_t {c : Prop} [Decidable c] (h : c) : b32 c = 1 := b32_1.mpr h
theorem b32_f {c : Prop} [Decidable c] (h : ¬ c) : b32 c = 0 := b32_0.mpr h
theorem one_ne : ¬ (1 : Int32) = 0 := by decide
theorem e_lg {d : Nat} {I : IM} {D : DY} {K : Int32 → IM → Prop} {L : List EV} {i c : Nat} {e : EV} {lit : Int32} (h : LG 55 I L) (he : L[i]? = some e) (hc : c < 6) (hl : lit = z32 (c : Int)) : CI (d + 2) 80 [vR (some 55), vI (z32 ((i + 1 : Nat) : Int)), vI lit] (mm I D) K ↔ K (colE c e) I := by
  subst hl
  have hi := lt_of_get he
  have hL := h.2.1
  refine CI_iff (s_Log_get _ _ ((e_lhas _).mpr ?_))
  rw [b32_t (by
    rw [h.1]
    constructor
    · show z32 1 ≤ _
      rw [z32_le] <;> omega
    · rw [z32_le] <;> omega)]
  have e2 : z32 ((i + 1 : Nat) : Int) * 6 + z32 (c : Int) = z32 (((i + 1) * 6 + c : Nat) : Int) := by
    show z32 _ * z32 6 + _ = _
    rw [z32_mul, z32_add]
    congr 1
  rw [e2]
  refine (brP_f one_ne).mpr ((brP_f (by rw [z32_0, z32_lt] <;> omega)).mpr ((brP_f (by show ¬ z32 1446 ≤ _; rw [z32_le] <;> omega)).mpr (tsP_i (inB_n (by omega) (by omega)) (qI_i ⟨?_, rfl⟩))))
  rw [ix_n (by omega)]
  exact h.2.2.1 i e he c hc
theorem e_ver {d : Nat} {I : IM} {D : DY} {K : Int32 → IM → Prop} {L : List EV} {s : Nat} (h : LG 55 I L) (hs : s < 8) : CI d 48 [vR (some 55), vI (z32 (s : Int))] (mm I D) K ↔ K (z32 (vrS L s : Int)) I := by
  refine CI_iff (s_Log_versionOf _ ((brP_f (by rw [z32_0, z32_lt] <;> omega)).mpr ((brP_f (by show ¬ z32 8 ≤ _; rw [z32_le] <;> omega)).mpr (tsP_i (inB_n hs (by omega)) (qI_i ⟨?_, rfl⟩)))))
  rw [ix_n (by omega)]
  exact h.2.2.2 s hs
theorem e_room {d : Nat} {I : IM} {D : DY} {K : Int32 → IM → Prop} {L : List EV} (h : LG 55 I L) : CI d 53 [vR (some 55)] (mm I D) K ↔ K (z32 (240 - (L.length : Int))) I := by
  refine CI_iff (s_Log_room (qI_i ⟨?_, rfl⟩))
  rw [h.1]
  show z32 240 - _ = _
  rw [z32_sub]
def posL (s : Nat) (v : Int32) : List EV → Nat → Int32
  | [], _ => -1
  | e :: l, i => if eS e = s then (if z32 (eV e : Int) = v then z32 (i : Int) else posL s v l (i + 1)) else posL s v l (i + 1)
theorem get_mid {α : Type} {pre xs : List α} {x : α} : (pre ++ x :: xs)[pre.length]? = some x := by
  rw [List.getElem?_append_right (Nat.le_refl _), Nat.sub_self]
  rfl
theorem pos_loop {d : Nat} {I : IM} {D : DY} {L : List EV} {s : Nat} {v : Int32} (h : LG 55 I L) (hs : s < 8) (hw : ∀ e ∈ L, eS e < 8) : ∀ (xs pre : List EV), L = pre ++ xs → Wp GG (d + 3) 90 2 [vR (some 55), vI (z32 (s : Int)), vI v, vI (z32 ((pre.length + 1 : Nat) : Int))] [] (mm I D) (qI (mm I D) (fun x I2 => x = posL s v xs (pre.length + 1) ∧ I2 = I)) := by
  have hL := h.2.1
  intro xs
  induction xs with
  | nil =>
    intro pre hp
    have hl : L.length = pre.length := by rw [hp, List.append_nil]
    refine s_Log_positionOf_2 _ _ _ ?_
    rw [h.1]
    exact (brP_t (by rw [z32_lt] <;> omega)).mpr (qI_i ⟨rfl, rfl⟩)
  | cons e xs ih =>
    intro pre hp
    have hl : L.length = pre.length + (xs.length + 1) := by rw [hp, List.length_append, List.length_cons]
    have he : L[pre.length]? = some e := by rw [hp]; exact get_mid
    have hes := hw e (by rw [hp]; simp)
    have hp2 : L = (pre ++ [e]) ++ xs := by rw [hp, List.append_assoc]; rfl
    have ih := ih (pre ++ [e]) hp2
    rw [List.length_append, List.length_singleton] at ih
    refine s_Log_positionOf_2 _ _ _ ?_
    rw [h.1]
    refine (brP_f (by rw [z32_lt] <;> omega)).mpr ?_
    rw [e_lg h he (c := 0) (lit := 0) (by omega) rfl, z32_s]
    refine brP_i (fun q => ?_) (fun q => ?_)
    · have q : ¬ eS e = s := fun e2 => q (by show z32 (eS e : Int) = _; rw [e2])
      have e3 : posL s v (e :: xs) (pre.length + 1) = posL s v xs (pre.length + 1 + 1) := if_neg q
      rw [e3]
      exact ih
    · have q : eS e = s := (z32_eN (by omega) (by omega)).mp (Classical.not_not.mp q)
      rw [e_lg h he (c := 1) (lit := 1) (by omega) rfl]
      have e3 : posL s v (e :: xs) (pre.length + 1) = if z32 (eV e : Int) = v then z32 ((pre.length + 1 : Nat) : Int) else posL s v xs (pre.length + 1 + 1) := if_pos q
      rw [e3]
      refine brP_i (fun q2 => ?_) (fun q2 => ?_)
      · have q2 : ¬ z32 (eV e : Int) = v := q2
        rw [if_neg q2]
        exact ih
      · have q2 : z32 (eV e : Int) = v := Classical.not_not.mp q2
        rw [if_pos q2]
        exact qI_i ⟨rfl, rfl⟩
theorem e_pos {d : Nat} {I : IM} {D : DY} {K : Int32 → IM → Prop} {L : List EV} {s : Nat} {v : Int32} (h : LG 55 I L) (hs : s < 8) (hw : ∀ e ∈ L, eS e < 8) : CI (d + 3) 90 [vR (some 55), vI (z32 (s : Int)), vI v] (mm I D) K ↔ K (posL s v L 1) I := CI_iff (s_Log_positionOf _ _ (pos_loop h hs hw L [] rfl))
/-- whether all of a stream's events behind a version are of these kinds -/
def onlL (m : Int32) (s : Nat) (v : Int32) : List EV → Int32
  | [] => 1
  | e :: l => if eS e = s then (if z32 (eV e : Int) ≤ v then onlL m s v l else if (m >>> z32 (eK e : Int)) &&& 1 = 0 then 0 else onlL m s v l) else onlL m s v l
theorem vrS_snoc {L : List EV} {e : EV} {s : Nat} : vrS (L ++ [e]) s = vrS L s + (if eS e = s then 1 else 0) := by
  unfold vrS
  rw [List.filter_append, List.length_append]
  congr 1
  rw [List.filter_cons]
  by_cases h : eS e = s
  · rw [if_pos h, if_pos (decide_eq_true h)]
    rfl
  · rw [if_neg h, if_neg (by rw [decide_eq_false h]; decide)]
    rfl
theorem vrS_le {L : List EV} {s : Nat} : vrS L s ≤ L.length := List.length_filter_le _ _
theorem e_lput {d : Nat} {I : IM} {D : DY} {K : IM → Prop} {n c : Nat} {lit v : Int32} (h : I 55 4 = z32 (n : Int)) (hn : n ≤ 240) (hc : c < 6) (hl : lit = z32 (c : Int)) : CV d 57 [vR (some 55), vI lit, vI v] (mm I D) K ↔ K (up2 I 56 (n * 6 + c) v) := by
  subst hl
  refine CV_iff (s_Log_put _ _ ?_)
  have e2 : I 55 4 * 6 + z32 (c : Int) = z32 ((n * 6 + c : Nat) : Int) := by
    rw [h]
    show z32 _ * z32 6 + _ = _
    rw [z32_mul, z32_add]
    congr 1
  rw [e2]
  refine (brP_f (by rw [z32_0, z32_lt] <;> omega)).mpr ((brP_f (by show ¬ z32 1446 ≤ _; rw [z32_le] <;> omega)).mpr (tsP_i (inB_n (by omega) (by omega)) ?_))
  rw [ix_n (by omega)]
  exact qV_i rfl
theorem c_ladd {d : Nat} {I : IM} {D : DY} {K : IM → Prop} {L : List EV} {s k f : Nat} {a b : Int32} (h : LG 55 I L) (hs : s < 8) (hr : L.length < 240)
    (kk : ∀ I2, (∀ q j, (q = 55 → j ≠ 4) → q ≠ 56 → q ≠ 57 → I2 q j = I q j) → LG 55 I2 (L ++ [(s, vrS L s + 1, k, f, a, b)]) → K I2) : CV (d + 1) 56 [vR (some 55), vI (z32 (s : Int)), vI (z32 (k : Int)), vI (z32 (f : Int)), vI a, vI b] (mm I D) K := by
  refine s_Log_add _ _ _ _ _ ?_
  have hv := vrS_le (L := L) (s := s)
  rw [e_room h]
  refine (brP_f (by show ¬ _ < z32 1; rw [z32_lt] <;> omega)).mpr ((brP_f (by rw [z32_0, z32_lt] <;> omega)).mpr ((brP_t (by show _ < z32 8; rw [z32_lt] <;> omega)).mpr (tsP_i (inB_n hs (by omega)) (tsP_i (inB_n hs (by omega)) ?_))))
  rw [ix_n (by omega), h.1, h.2.2.2 s hs, z32_s, z32_s]
  generalize hJ : up2 (up2 I 55 4 (z32 ((L.length + 1 : Nat) : Int))) 57 s (z32 ((vrS L s + 1 : Nat) : Int)) = J
  have j1 : J 55 4 = z32 ((L.length + 1 : Nat) : Int) := by rw [← hJ, up2_ne (by omega), up2_eq]
  have jf : ∀ q j, (q = 55 → j ≠ 4) → q ≠ 57 → J q j = I q j := fun q j h1 h2 => by
    rw [← hJ, up2_ne h2]
    by_cases e : q = 55
    · subst e
      exact up2_nj (h1 rfl)
    · exact up2_ne e
  have j57 : ∀ t, t < 8 → J 57 t = z32 (vrS (L ++ [(s, vrS L s + 1, k, f, a, b)]) t : Int) := fun t ht => by
    rw [vrS_snoc, ← hJ]
    by_cases e : t = s
    · subst e
      rw [up2_eq, if_pos rfl]
    · rw [up2_nj e, up2_ne (by omega), h.2.2.2 t ht, if_neg (fun q => e q.symm)]
      rfl
  rw [e_lput (c := 0) (lit := 0) j1 (by omega) (by omega) rfl]
  refine tsP_i (inB_n hs (by omega)) ?_
  have nj : ∀ (J : IM) (q : Nat) (v : Int32), up2 J 56 q v 55 4 = J 55 4 := fun J q v => up2_ne (by omega)
  have e57 : up2 J 56 ((L.length + 1) * 6 + 0) (z32 (s : Int)) 57 s = z32 ((vrS L s + 1 : Nat) : Int) := by
    rw [up2_ne (by omega), j57 s hs, vrS_snoc, if_pos rfl]
  rw [e57, e_lput (c := 1) (lit := 1) ((nj _ _ _).trans j1) (by omega) (by omega) rfl, e_lput (c := 2) (lit := 2) ((nj _ _ _).trans ((nj _ _ _).trans j1)) (by omega) (by omega) rfl,
    e_lput (c := 3) (lit := 3) ((nj _ _ _).trans ((nj _ _ _).trans ((nj _ _ _).trans j1))) (by omega) (by omega) rfl, e_lput (c := 4) (lit := 4) ((nj _ _ _).trans ((nj _ _ _).trans ((nj _ _ _).trans ((nj _ _ _).trans j1)))) (by omega) (by omega) rfl,
    e_lput (c := 5) (lit := 5) ((nj _ _ _).trans ((nj _ _ _).trans ((nj _ _ _).trans ((nj _ _ _).trans ((nj _ _ _).trans j1))))) (by omega) (by omega) rfl]
  refine qV_i (kk _ (fun q j h1 h2 h3 => ?_) ⟨?_, ?_, fun i e he c hc => ?_, fun t ht => ?_⟩)
  · rw [up2_ne h2, up2_ne h2, up2_ne h2, up2_ne h2, up2_ne h2, up2_ne h2]
    exact jf q j h1 h3
  · rw [up2_ne (by omega), up2_ne (by omega), up2_ne (by omega), up2_ne (by omega), up2_ne (by omega), up2_ne (by omega), j1, List.length_append, List.length_singleton]
  · rw [List.length_append, List.length_singleton]
    omega
  · rcases Nat.lt_or_ge i L.length with q | q
    · rw [List.getElem?_append_left q] at he
      show up2 _ 56 _ _ 56 _ = _
      rw [up2_nj (by omega), up2_nj (by omega), up2_nj (by omega), up2_nj (by omega), up2_nj (by omega), up2_nj (by omega), jf 56 _ (by omega) (by omega)]
      exact h.2.2.1 i e he c hc
    · have hi : i = L.length := by
        have := lt_of_get he
        rw [List.length_append, List.length_singleton] at this
        omega
      subst hi
      rw [get_mid] at he
      cases he
      show up2 _ 56 _ _ 56 _ = _
      obtain rfl | rfl | rfl | rfl | rfl | rfl : c = 0 ∨ c = 1 ∨ c = 2 ∨ c = 3 ∨ c = 4 ∨ c = 5 := by omega
      · rw [up2_nj (by omega), up2_nj (by omega), up2_nj (by omega), up2_nj (by omega), up2_nj (by omega), up2_eq]; rfl
      · rw [up2_nj (by omega), up2_nj (by omega), up2_nj (by omega), up2_nj (by omega), up2_eq]; rfl
      · rw [up2_nj (by omega), up2_nj (by omega), up2_nj (by omega), up2_eq]; rfl
      · rw [up2_nj (by omega), up2_nj (by omega), up2_eq]; rfl
      · rw [up2_nj (by omega), up2_eq]; rfl
      · rw [up2_eq]; rfl
  · show up2 _ 56 _ _ 57 _ = _
    rw [up2_ne (by omega), up2_ne (by omega), up2_ne (by omega), up2_ne (by omega), up2_ne (by omega), up2_ne (by omega)]
    exact j57 t ht
