/-! The model works a formula's code. -/
theorem e_mjoin {d : Nat} {I : IM} {D : DY} {K : Int32 → IM → Prop} {sg : Int32} (x y : Int32) (h : sg = 43 ∨ sg = 45 ∨ sg = 42 ∨ sg = 47 ∨ sg = 37 ∨ sg = 60 ∨ sg = 61 ∨ sg = 62) : CI d 197 [vI sg, vI x, vI y] (mm I D) K ↔ K (jnV sg x y) I := by
  refine CI_iff (s_M_joined _ _ _ ?_)
  rcases h with rfl | rfl | rfl | rfl | rfl | rfl | rfl | rfl
  · refine (brP_f (by decide)).mpr ((brP_f (by decide)).mpr ((brP_f (by decide)).mpr ((brP_f (by decide)).mpr ((brP_f (by decide)).mpr ((brP_f (by decide)).mpr ((brP_t (by decide)).mpr (qI_i ⟨rfl, rfl⟩)))))))
  · refine (brP_f (by decide)).mpr ((brP_f (by decide)).mpr ((brP_f (by decide)).mpr ((brP_f (by decide)).mpr ((brP_f (by decide)).mpr ((brP_f (by decide)).mpr ((brP_f (by decide)).mpr ((brP_f (by decide)).mpr ((brP_t (by decide)).mpr (qI_i ⟨rfl, rfl⟩)))))))))
  · refine (brP_f (by decide)).mpr ((brP_f (by decide)).mpr ((brP_f (by decide)).mpr ((brP_f (by decide)).mpr ((brP_f (by decide)).mpr ((brP_t (by decide)).mpr (qI_i ⟨rfl, rfl⟩))))))
  · refine (brP_f (by decide)).mpr ((brP_f (by decide)).mpr ((brP_f (by decide)).mpr ((brP_f (by decide)).mpr ((brP_f (by decide)).mpr ((brP_f (by decide)).mpr ((brP_f (by decide)).mpr ((brP_f (by decide)).mpr ((brP_f (by decide)).mpr ((brP_f (by decide)).mpr ((brP_t (by decide)).mpr (brP_i (fun h => tsP_i h (qI_i ⟨?_, rfl⟩)) (fun h => qI_i ⟨?_, rfl⟩))))))))))))
    · exact (if_neg h).symm
    · exact (if_pos (Classical.not_not.mp h)).symm
  · refine (brP_t (by decide)).mpr (brP_i (fun h => tsP_i h (qI_i ⟨?_, rfl⟩)) (fun h => qI_i ⟨?_, rfl⟩))
    · exact (if_neg h).symm
    · exact (if_pos (Classical.not_not.mp h)).symm
  · refine (brP_f (by decide)).mpr ((brP_f (by decide)).mpr ((brP_f (by decide)).mpr ((brP_f (by decide)).mpr ((brP_f (by decide)).mpr ((brP_f (by decide)).mpr ((brP_f (by decide)).mpr ((brP_f (by decide)).mpr ((brP_f (by decide)).mpr ((brP_f (by decide)).mpr ((brP_f (by decide)).mpr ((brP_f (by decide)).mpr ((brP_f (by decide)).mpr ((brP_f (by decide)).mpr ((brP_f (by decide)).mpr ((brP_f (by decide)).mpr ((brP_f (by decide)).mpr ((brP_f (by decide)).mpr ((brP_f (by decide)).mpr ((brP_f (by decide)).mpr ((brP_f (by decide)).mpr ((brP_f (by decide)).mpr ((brP_f (by decide)).mpr ((brP_t (by decide)).mpr (brP_i (fun h => qI_i ⟨?_, rfl⟩) (fun h => qI_i ⟨?_, rfl⟩)))))))))))))))))))))))))
    · exact (b32_f (Int32.not_lt.mpr h)).symm
    · exact (b32_t (Int32.not_le.mp h)).symm
  · refine (brP_f (by decide)).mpr ((brP_f (by decide)).mpr ((brP_f (by decide)).mpr ((brP_f (by decide)).mpr ((brP_f (by decide)).mpr ((brP_f (by decide)).mpr ((brP_f (by decide)).mpr ((brP_f (by decide)).mpr ((brP_f (by decide)).mpr ((brP_f (by decide)).mpr ((brP_f (by decide)).mpr ((brP_f (by decide)).mpr ((brP_f (by decide)).mpr ((brP_f (by decide)).mpr ((brP_f (by decide)).mpr ((brP_f (by decide)).mpr ((brP_f (by decide)).mpr ((brP_f (by decide)).mpr ((brP_f (by decide)).mpr ((brP_f (by decide)).mpr ((brP_f (by decide)).mpr ((brP_f (by decide)).mpr ((brP_f (by decide)).mpr ((brP_f (by decide)).mpr ((brP_t (by decide)).mpr (brP_i (fun h => qI_i ⟨?_, rfl⟩) (fun h => qI_i ⟨?_, rfl⟩))))))))))))))))))))))))))
    · exact (b32_f h).symm
    · exact (b32_t (Classical.not_not.mp h)).symm
  · refine (brP_f (by decide)).mpr ((brP_f (by decide)).mpr ((brP_f (by decide)).mpr ((brP_f (by decide)).mpr ((brP_f (by decide)).mpr ((brP_f (by decide)).mpr ((brP_f (by decide)).mpr ((brP_f (by decide)).mpr ((brP_f (by decide)).mpr ((brP_f (by decide)).mpr ((brP_f (by decide)).mpr ((brP_f (by decide)).mpr ((brP_f (by decide)).mpr ((brP_f (by decide)).mpr ((brP_f (by decide)).mpr ((brP_f (by decide)).mpr ((brP_f (by decide)).mpr ((brP_f (by decide)).mpr ((brP_f (by decide)).mpr ((brP_f (by decide)).mpr ((brP_f (by decide)).mpr ((brP_f (by decide)).mpr ((brP_f (by decide)).mpr ((brP_f (by decide)).mpr ((brP_f (by decide)).mpr (brP_i (fun h => qI_i ⟨?_, rfl⟩) (fun h => qI_i ⟨?_, rfl⟩))))))))))))))))))))))))))
    · exact (b32_f (Int32.not_lt.mpr h)).symm
    · exact (b32_t (Int32.not_le.mp h)).symm
/-- the pile: a stack's top lies highest -/
def PK (I : IM) (st : Tx) : Prop := ∀ j, j < st.length → I 111 (st.length - 1 - j) = st.getD j 0
def WFr (I I2 : IM) : Prop := ∀ q k, q ≠ 111 → I2 q k = I q k
theorem WFr.rf {I : IM} : WFr I I := fun _ _ _ => rfl
theorem WFr.tr {I I2 I3 : IM} (h : WFr I I2) (h2 : WFr I2 I3) : WFr I I3 := fun q k e => (h2 q k e).trans (h q k e)
theorem WFr.up {I : IM} {k : Nat} {v : Int32} : WFr I (up2 I 111 k v) := fun q j h => if_neg (fun e => h e.1)
theorem WFr.s {I I2 : IM} (h : WFr I I2) : SFr I I2 := fun q k e => h q k (fun c => e (by unfold Sc; omega))
theorem PK.push {I : IM} {st : Tx} {v : Int32} (h : PK I st) : PK (up2 I 111 st.length v) (v :: st) := fun j hj => by
  rw [List.length_cons] at hj ⊢
  cases j with
  | zero => rw [Nat.add_sub_cancel, Nat.sub_zero, up2_eq]; rfl
  | succ j => rw [up2_nj (by omega), show st.length + 1 - 1 - (j + 1) = st.length - 1 - j by omega, h j (by omega)]; rfl
theorem PK.set {I : IM} {s : Tx} {x v : Int32} (h : PK I (x :: s)) : PK (up2 I 111 s.length v) (v :: s) := fun j hj => by
  rw [List.length_cons] at hj ⊢
  cases j with
  | zero => rw [Nat.add_sub_cancel, Nat.sub_zero, up2_eq]; rfl
  | succ j =>
    have := h (j + 1) (by rw [List.length_cons]; omega)
    rw [List.length_cons] at this
    rw [up2_nj (by omega), this]
    rfl
theorem PK.tail {I : IM} {s : Tx} {x : Int32} (h : PK I (x :: s)) : PK I s := fun j hj => by
  have := h (j + 1) (by rw [List.length_cons]; omega)
  rw [List.length_cons, show s.length + 1 - 1 - (j + 1) = s.length - 1 - j by omega] at this
  exact this
theorem PK.top {I : IM} {s : Tx} {x : Int32} (h : PK I (x :: s)) : I 111 s.length = x := by
  have := h 0 (by rw [List.length_cons]; omega)
  rw [List.length_cons, show s.length + 1 - 1 - 0 = s.length by omega] at this
  exact this
/-- cells of a code from a place on -/
def CL2 (I : IM) (p : Nat) (e : Tx) : Prop := ∀ k, k < e.length → I 109 (p + k) = e.getD k 0
theorem CL2.hd {I : IM} {p : Nat} {x : Int32} {e : Tx} (h : CL2 I p (x :: e)) : I 109 p = x := h 0 (by rw [List.length_cons]; omega)
theorem CL2.tl {I : IM} {p : Nat} {x : Int32} {e : Tx} (h : CL2 I p (x :: e)) : CL2 I (p + 1) e := fun k hk => by
  have := h (k + 1) (by rw [List.length_cons]; omega)
  rw [show p + 1 + k = p + (k + 1) by omega, this]
  rfl
theorem CL2.w {I I2 : IM} {p : Nat} {e : Tx} (h : CL2 I p e) (hf : WFr I I2) : CL2 I2 p e := fun k hk => (hf _ _ (by omega)).trans (h k hk)
theorem encV_cons (x : Int32) (c : Tx) : encV (x :: c) = encE x ++ encV c := List.flatMap_cons
theorem z32_p (n : Nat) : z32 ((n + 1 : Nat) : Int) - 1 = z32 (n : Int) := by
  show _ - z32 1 = _
  rw [z32_sub]
  congr 1
  omega
theorem worked_loop {d : Nat} {D : DY} {K : Int32 → IM → Prop} {env : Nat → Int32} {nv : Nat} (hnv : nv ≤ 5) {p1 : Int32} {I0 : IM} (henv : ∀ q, q < nv → I0 112 q = env q) :
    ∀ (xs : Tx) (st : Tx) (p e : Nat) (I : IM) (w : PV), WFr I0 I → (∀ x ∈ xs, okE nv x) → dpV 32 xs st.length = some 1 → PK I st → CL2 I p (encV xs) → e = p + (encV xs).length → e ≤ 39200 → st.length ≤ 32 →
    (∀ I2, WFr I0 I2 → K ((evV env xs st).headD 0) I2) →
    Wp GG (d + 1) 196 18 [vR (some 106), vI p1, vI (z32 (st.length : Int)), vI (z32 (p : Int)), vI (z32 (e : Int)), w] [] (mm I D) (qI (mm I0 D) K) := by
  intro xs
  induction xs with
  | nil =>
    intro st p e I w f ho hd hs hc he he2 h32 k
    have h0 : (encV []).length = 0 := rfl
    refine s_M_worked_18 _ _ _ _ _ ((brP_t (by rw [z32_le] <;> omega)).mpr ⟨_, _, rfl, rfl, ?_⟩)
    have hd : some st.length = some 1 := hd
    have hl : st.length = 1 := by injection hd
    cases st with
    | nil => cases hl
    | cons x s =>
      have : s = [] := List.eq_nil_of_length_eq_zero (by rw [List.length_cons] at hl; omega)
      subst this
      have ht := hs.top
      have ht : I 111 0 = x := ht
      rw [ht]
      exact k I f
  | cons x xs ih =>
    intro st p e I w f ho hd hs hc he he2 h32 k
    have hx := ho x List.mem_cons_self
    have ho2 : ∀ y ∈ xs, okE nv y := fun y hy => ho y (List.mem_cons_of_mem _ hy)
    rw [encV_cons] at hc he
    rw [List.length_append] at he
    have hd : (if 0 ≤ x then (if st.length < 32 then dpV 32 xs (st.length + 1) else none) else if x = -1000 then (if 1 ≤ st.length then dpV 32 xs st.length else none) else (if 2 ≤ st.length then dpV 32 xs (st.length - 1) else none)) = some 1 := hd
    have ek : evV env (x :: xs) st = evV env xs (stV env x st) := rfl
    rw [ek] at k
    have inb : ∀ n, n < e → inB (z32 (n : Int)) 39200 := fun n hn => inB_n (by omega) (by omega)
    by_cases h0 : 0 ≤ x
    · rw [if_pos h0] at hd
      have hn : 0 ≤ x.toInt := by
        have := Int32.le_iff_toInt_le.mp h0
        exact this
      have hlt : st.length < 32 := by
        rcases Nat.lt_or_ge st.length 32 with q | q
        · exact q
        · rw [if_neg (by omega)] at hd
          cases hd
      rw [if_pos hlt] at hd
      have hx2 : x.toInt < 10000 + nv := by
        rcases hx with q | rfl | rfl | rfl | rfl | rfl | rfl | rfl | rfl | rfl
        · exact q.2
        all_goals exact absurd h0 (by decide)
      by_cases h1 : x < 10000
      · have ee : encE x = [1, x] := by
          unfold encE
          rw [if_pos h0, if_pos h1]
        have es : stV env x st = x :: st := by
          unfold stV
          rw [if_pos h0, if_pos h1]
        rw [ee] at hc he
        rw [es] at k
        have he : e = p + (2 + (encV xs).length) := he
        have hc : CL2 I p (1 :: x :: encV xs) := hc
        refine s_M_worked_18 _ _ _ _ _ ((brP_f (by rw [z32_le] <;> omega)).mpr (tsP_i (inb p (by omega)) ?_))
        rw [ix_n (by omega), hc.hd, z32_s]
        refine (brP_t rfl).mpr (s_M_worked_47 _ _ _ _ _ ((brP_f (by decide)).mpr (tsP_i (inb (p + 1) (by omega)) (tsP_i (inB_n (by omega) (by omega)) ?_))))
        rw [ix_n (by omega), ix_n (by omega), hc.tl.hd, z32_s, z32_s]
        exact ih (x :: st) (p + 1 + 1) e _ _ (f.tr WFr.up) ho2 hd hs.push (hc.tl.tl.w WFr.up) (by omega) he2 (by rw [List.length_cons]; omega) k
      · have hge : ¬ x.toInt < 10000 := fun c => h1 (by rw [show (10000 : Int32) = z32 10000 from rfl, lt_lit] <;> omega)
        have ee : encE x = [2, x - 10000] := by
          unfold encE
          rw [if_pos h0, if_neg h1]
        have es : stV env x st = env (x.toInt - 10000).toNat :: st := by
          unfold stV
          rw [if_pos h0, if_neg h1]
        obtain ⟨q, hq⟩ : ∃ q : Nat, x.toInt - 10000 = (q : Int) := ⟨(x.toInt - 10000).toNat, by omega⟩
        have hqn : q < nv := by omega
        have exq : x - 10000 = z32 (q : Int) := by
          rw [z32_of x]
          show _ - z32 10000 = _
          rw [z32_sub, hq]
        rw [ee, exq] at hc
        rw [ee] at he
        rw [es, hq, Int.toNat_natCast] at k
        have he : e = p + (2 + (encV xs).length) := he
        have hc : CL2 I p (2 :: z32 (q : Int) :: encV xs) := hc
        refine s_M_worked_18 _ _ _ _ _ ((brP_f (by rw [z32_le] <;> omega)).mpr (tsP_i (inb p (by omega)) ?_))
        rw [ix_n (by omega), hc.hd, z32_s]
        refine (brP_f (by decide)).mpr ((brP_f (by decide)).mpr (s_M_worked_47 _ _ _ _ _ ((brP_t (by decide)).mpr (s_M_worked_67 _ _ _ _ _ _ (tsP_i (inb (p + 1) (by omega)) ?_)))))
        rw [ix_n (by omega), hc.tl.hd]
        refine tsP_i (inB_n (by omega) (by omega)) (tsP_i (inB_n (by omega) (by omega)) ?_)
        rw [ix_n (by omega), ix_n (by omega), f 112 q (by omega), henv q hqn, z32_s, z32_s]
        exact ih (env q :: st) (p + 1 + 1) e _ _ (f.tr WFr.up) ho2 hd hs.push (hc.tl.tl.w WFr.up) (by omega) he2 (by rw [List.length_cons]; omega) k
    · rw [if_neg h0] at hd
      by_cases h1 : x = -1000
      · subst h1
        rw [if_pos rfl] at hd
        have he : e = p + (1 + (encV xs).length) := he
        have hc : CL2 I p (3 :: encV xs) := hc
        cases st with
        | nil => exact absurd hd (by rw [if_neg (by decide)]; decide)
        | cons y s =>
          rw [List.length_cons] at hd h32 ⊢
          rw [if_pos (by omega)] at hd
          have k : ∀ I2, WFr I0 I2 → K ((evV env xs (-y :: s)).headD 0) I2 := k
          refine s_M_worked_18 _ _ _ _ _ ((brP_f (by rw [z32_le] <;> omega)).mpr (tsP_i (inb p (by omega)) ?_))
          rw [ix_n (by omega), hc.hd, z32_s]
          refine (brP_f (by decide)).mpr ((brP_t (by decide)).mpr (s_M_worked_88 _ _ _ _ _ ((brP_f (by decide)).mpr ?_)))
          rw [z32_p]
          refine tsP_i (inB_n (by omega) (by omega)) (tsP_i (inB_n (by omega) (by omega)) ?_)
          rw [ix_n (by omega), hs.top]
          exact ih (-y :: s) (p + 1) e _ _ (f.tr WFr.up) ho2 hd hs.set (hc.tl.w WFr.up) (by omega) he2 (by rw [List.length_cons]; omega) k
      · rw [if_neg h1] at hd
        have h2 : 2 ≤ st.length := by
          rcases Nat.lt_or_ge st.length 2 with q | q
          · rw [if_neg (by omega)] at hd
            cases hd
          · exact q
        rw [if_pos h2] at hd
        have hsg : -x = 43 ∨ -x = 45 ∨ -x = 42 ∨ -x = 47 ∨ -x = 37 ∨ -x = 60 ∨ -x = 61 ∨ -x = 62 := by
          rcases hx with q | rfl | rfl | rfl | rfl | rfl | rfl | rfl | rfl | rfl
          · exact absurd (by rw [Int32.le_iff_toInt_le]; exact q.1) h0
          · exact absurd rfl h1
          all_goals decide
        have ee : encE x = [-x] := by
          unfold encE
          rw [if_neg h0, if_neg h1]
        rw [ee] at hc he
        have he : e = p + (1 + (encV xs).length) := he
        have hc : CL2 I p (-x :: encV xs) := hc
        obtain ⟨y, v, s, rfl⟩ : ∃ y v s, st = y :: v :: s := by
          match st, h2 with
          | y :: v :: s, _ => exact ⟨y, v, s, rfl⟩
        have es : stV env x (y :: v :: s) = jnV (-x) v y :: s := by
          unfold stV
          rw [if_neg h0, if_neg h1]
        rw [es] at k
        have hl : (y :: v :: s).length = s.length + 1 + 1 := rfl
        rw [hl] at hd h32 ⊢
        refine s_M_worked_18 _ _ _ _ _ ((brP_f (by rw [z32_le] <;> omega)).mpr (tsP_i (inb p (by omega)) ?_))
        rw [ix_n (by omega), hc.hd, z32_s]
        have n1 : ¬ -x = 1 := fun c => by rw [c] at hsg; exact absurd hsg (by decide)
        have n2 : ¬ -x = 2 := fun c => by rw [c] at hsg; exact absurd hsg (by decide)
        have n3 : ¬ -x = 3 := fun c => by rw [c] at hsg; exact absurd hsg (by decide)
        have em : z32 ((s.length + 1 + 1 : Nat) : Int) + -1 = z32 ((s.length + 1 : Nat) : Int) := by
          show _ + z32 (-1) = _
          rw [z32_add]
          congr 1
          omega
        refine (brP_f n1).mpr ((brP_t n2).mpr (s_M_worked_88 _ _ _ _ _ ((brP_t n3).mpr (s_M_worked_114 _ _ _ _ _ (s_M_worked_126 _ _ _ _ _ _ _ ?_)))))
        rw [em, z32_p]
        refine tsP_i (inB_n (by omega) (by omega)) (tsP_i (inB_n (by omega) (by omega)) (s_M_worked_140 _ _ _ _ _ _ _ _ _ ?_))
        rw [ix_n (by omega), ix_n (by omega)]
        have t1 : I 111 (s.length + 1) = y := hs.top
        rw [t1, hs.tail.top, e_mjoin v y hsg]
        refine tsP_i (inB_n (by omega) (by omega)) ?_
        exact ih (jnV (-x) v y :: s) (p + 1) e _ _ (f.tr WFr.up) ho2 hd hs.tail.set (hc.tl.w WFr.up) (by omega) he2 (by rw [List.length_cons]; omega) k
/-- a formula of a slot is worked -/
theorem c_worked {d : Nat} {I : IM} {D : DY} {K : Int32 → IM → Prop} {env : Nat → Int32} {nv sl : Nat} {c : Tx} (hsl : sl < 160) (hnv : nv ≤ 5) (henv : ∀ q, q < nv → I 112 q = env q) (hc : cWF nv c) (hF : FMc I sl (encV c)) (k : ∀ I2, WFr I I2 → K (valV env c) I2) : CI (d + 1) 196 [vR (some 106), vI (z32 (sl : Int))] (mm I D) K := by
  obtain ⟨f1, f2, f3⟩ := hF
  have e1 : 245 * z32 (sl : Int) = z32 ((245 * sl : Nat) : Int) := by
    show z32 245 * _ = _
    rw [z32_mul]
    congr 1
  refine s_M_worked _ (tsP_i (inB_n hsl (by omega)) ?_)
  rw [ix_n (by omega), f1, e1, z32_add]
  exact worked_loop (d := d) (p1 := z32 (sl : Int)) (I0 := I) hnv henv c [] (245 * sl) (245 * sl + (encV c).length) I vT WFr.rf hc.1 hc.2.1 (fun j hj => absurd hj (Nat.not_lt_zero _)) f3 rfl (by omega) (by decide) k
