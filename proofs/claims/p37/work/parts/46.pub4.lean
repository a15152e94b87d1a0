/-! The class's calls on projections and policies. -/
section
variable {d : Nat} {I : IM} {D : DY}
theorem PO.old {x p : Nat} {e : Option PJ} {a : Nat} (h : PO I D x p e) (hd : dR D x p = some a) : a + 1 < dZ D ∧ dK D a = 7 ∧ 159 ≤ a := by
  unfold PO at h
  cases e with
  | none =>
    have h : dR D x p = none := h
    rw [h] at hd
    cases hd
  | some v =>
    obtain ⟨b, e1, e2⟩ := h
    rw [e1] at hd
    cases hd
    exact ⟨e2.1.2.1, e2.1.2.2.1, e2.1.1⟩
theorem QO.old {x p : Nat} {e : Option QL} {a : Nat} (h : QO I D x p e) (hd : dR D x p = some a) : a < dZ D ∧ dK D a = 6 ∧ 159 ≤ a := by
  unfold QO at h
  cases e with
  | none =>
    have h : dR D x p = none := h
    rw [h] at hd
    cases hd
  | some v =>
    obtain ⟨b, e1, e2⟩ := h
    rw [e1] at hd
    cases hd
    exact ⟨e2.1.2.1, e2.1.2.2.1, e2.1.1⟩
theorem RC.old {τ : ST} (h : RC τ I D) : (∀ y q a, (y = 73 ∨ y = 74 ∨ y = 99 ∨ y = 100) → q < 4 → dR D y q = some a → a + 1 < dZ D ∧ dK D a = 7 ∧ 159 ≤ a) ∧ ∀ y q a, (y = 75 ∨ y = 101) → q < 4 → dR D y q = some a → a < dZ D ∧ dK D a = 6 ∧ 159 ≤ a := by
  obtain ⟨h1, h2, h3, h4, h5, h6, h7, h8, h9⟩ := h
  refine ⟨fun y q a hy hq hd => ?_, fun y q a hy hq hd => ?_⟩
  · rcases hy with rfl | rfl | hy
    · exact (h6 0 q (by omega) hq).old hd
    · exact (h6 1 q (by omega) hq).old hd
    · cases hκ : tI τ with
      | none =>
        rw [hκ] at h8
        rw [h8 y q (by omega) hq] at hd
        cases hd
      | some κ =>
        rw [hκ] at h8
        rcases hy with rfl | rfl
        · exact (h8.2.1 0 q (by omega) hq).old hd
        · exact (h8.2.1 1 q (by omega) hq).old hd
  · rcases hy with rfl | rfl
    · exact (h7 q hq).old hd
    · cases hκ : tI τ with
      | none =>
        rw [hκ] at h8
        rw [h8 101 q (by omega) hq] at hd
        cases hd
      | some κ =>
        rw [hκ] at h8
        exact (h8.2.2 q hq).old hd
theorem RC.newP {τ : ST} {D2 : DY} {a : Nat} (h : RC τ I D) (ha : dZ D ≤ a) (he : ∀ y q, (y = 73 ∨ y = 74 ∨ y = 99 ∨ y = 100) → q < 4 → dR D2 y q = dR D y q) (x p : Nat) : ∀ b y q, some a = some b → (y = 73 ∨ y = 74 ∨ y = 99 ∨ y = 100) → q < 4 → dR D2 y q = some b → y = x ∧ q = p := fun b y q e hy hq hd => by
  cases e
  rw [he y q hy hq] at hd
  have := (h.old.1 y q a hy hq hd).1
  omega
def newX (x : Nat × Int32 × Nat × Tx) : PJ := (x.1, x.2.1, x.2.2.1, x.2.2.2, (fun _ => none), 0)
def S_project (τ : ST) (p : Int32) : ST × Int32 := if 0 ≤ p ∧ p ≤ 3 then (match allP (tT τ) (pjP (tT τ)) with
  | .inr f => (([], tS τ, tI τ), fltV f)
  | .inl x => (([], setPJ (setPJ (tS τ) 0 (aN p) (some (newX x))) 1 (aN p) none, tI τ), 1)) else (τ, -1)
theorem DX.row46 {D2 : DY} {c s : Nat} (hz : 159 ≤ dZ D) (x2 : DX XL D D2 c s) : ∀ y q, (y = 73 ∨ y = 74 ∨ y = 99 ∨ y = 100) → q < 4 → dR D2 y q = dR D y q := fun y q hy hq => (x2.2.2.2 y (by omega)).2.2.2 (fun e => by have e : y = 46 := e; omega) q
theorem newX_is {I2 : IM} {a : Nat} {x : Nat × Int32 × Nat × Tx} (h : newP I D a x.1 x.2.1 x.2.2.1 x.2.2.2 ∧ x.1 < 6 ∧ x.2.2.1 < 3) (w : cWF 3 x.2.2.2) (f : ∀ b j, (b = 46 → j ≠ 4 ∧ j ≠ 5 ∧ j ≠ 6) → I2 b j = I b j) : isP I2 D a (newX x) := by
  have hN := h.1.is w h.2.1 h.2.2
  have h159 := hN.1.1
  exact hN.fr (fun j => f a j (fun e => by omega)) (fun j => f (a + 1) j (fun e => by omega)) (fun q j h1 _ _ => f q j (fun e => by omega))
theorem p_project {τ : ST} {K : Int32 → IM → DY → Prop} (h : RC τ I D) (p : Int32) (k : ∀ I2 D2, FrM I I2 → GD D D2 → RC (S_project τ p).1 I2 D2 → K (S_project τ p).2 I2 D2) : AI (d + 100) 109 [vR (some 45), vI p] (mm I D) K := by
  obtain ⟨T, σ, κ⟩ := τ
  have h3 : TP I T := h.2.2.1
  have hz := h.1
  unfold S_project at k
  refine s_S_project _ ?_
  rw [e_isSlot]
  refine br1 (fun hs => ?_) (fun hs => aI_i rfl ?_)
  rotate_left
  · rw [if_neg hs] at k
    exact k I D FrM.rf GD.rf h
  rw [if_pos hs] at k
  obtain ⟨n, rfl, hn⟩ := rng (m := 3) (by omega) hs
  rw [aN_z (by omega)] at k
  refine c_begin h3 (fun I1 f1 P1 => ?_)
  refine c_projection (d := d + 98) (by omega) hz (h.2.1.fr f1) P1 (fun a I2 D2 x2 f2 P2 g2 n2 => ?_)
  rw [sq_inl] at P2 n2
  have x2' := x2.mono XL46
  have fb : PFb I I2 D := (PFa.tr (X := XL) (c := 0) (s := 0) f1.x.a DX.rf f2).b
  refine end_go (d := d + 98) P2 (fun x I3 e1 e2 f3 z3 => ?_) (fun f I3 e1 f3 z3 => ?_)
  · obtain ⟨r3, m3⟩ := h.parsed x2' fb f3 z3
    have e1 : allP (tT (T, σ, κ)) (pjP (tT (T, σ, κ))) = .inl x := e1
    rw [e1] at k
    dsimp only at k
    have hP : isP I3 D2 a (newX x) := newX_is (n2 x [] e2) (pjP_wf h3.2.1 e2).2.2.1 f3
    have b4 : inB (z32 (n : Int)) 4 := inB_n (by omega) (by omega)
    have r4 := r3.setP (w := 0) (p := n) (v := some a) (x := some (newX x)) (by omega) (by omega) ⟨a, rfl, hP⟩ (h.newP g2 (x2.row46 hz) 73 n)
    have r5 := r4.setP (w := 1) (p := n) (v := none) (x := none) (by omega) (by omega) rfl (fun a y q e => by cases e)
    refine tsP_i b4 (astP_i (fun b e => ?_) (tsP_i b4 ?_))
    · cases e
      exact hP.k _
    rw [ix_n (by omega), setR_m (show isFn 73 n = false from rfl), setR_m (show isFn 74 n = false from rfl)]
    exact aI_i rfl (k I3 _ m3 (x2.g (by omega) (by omega)) r5)
  · obtain ⟨r3, m3⟩ := h.parsed x2' fb f3 z3
    have e1 : allP (tT (T, σ, κ)) (pjP (tT (T, σ, κ))) = .inr f := e1
    rw [e1] at k
    rw [flt_e]
    exact aI_i rfl (k I3 D2 m3 (x2.g (by omega) (by omega)) r3)
def S_rebuild (τ : ST) (p : Int32) : ST × Int32 := if 0 ≤ p ∧ p ≤ 3 then (match zP (tS τ) 0 (aN p) with
  | none => (τ, -5)
  | some x => if (tT τ).length = 0 then ((tT τ, setPJ (tS τ) 1 (aN p) (some (newJ x)), tI τ), 1) else (match allP (tT τ) (pjP (tT τ)) with
    | .inr f => (([], tS τ, tI τ), fltV f)
    | .inl x => (([], setPJ (tS τ) 1 (aN p) (some (newX x)), tI τ), 1))) else (τ, -1)
theorem p_rebuild {τ : ST} {K : Int32 → IM → DY → Prop} (h : RC τ I D) (p : Int32) (k : ∀ I2 D2, FrM I I2 → GD D D2 → RC (S_rebuild τ p).1 I2 D2 → K (S_rebuild τ p).2 I2 D2) : AI (d + 100) 115 [vR (some 45), vI p] (mm I D) K := by
  obtain ⟨T, σ, κ⟩ := τ
  have h3 : TP I T := h.2.2.1
  have h160 := h3.2.1
  have hz := h.1
  unfold S_rebuild at k
  refine s_S_rebuild _ ?_
  rw [e_isSlot]
  refine br1 (fun hs => ?_) (fun hs => aI_i rfl ?_)
  rotate_left
  · rw [if_neg hs] at k
    exact k I D FrM.rf GD.rf h
  rw [if_pos hs] at k
  obtain ⟨n, rfl, hn⟩ := rng (m := 3) (by omega) hs
  rw [aN_z (by omega)] at k
  have b4 : inB (z32 (n : Int)) 4 := inB_n (by omega) (by omega)
  have h0 : PO I D 73 n (zP σ 0 n) := h.sl (w := 0) (by omega) (by omega)
  refine tsP_i b4 ?_
  rw [ix_n (by omega)]
  cases he : zP σ 0 n with
  | none =>
    rw [he] at h0
    have he : zP (tS (T, σ, κ)) 0 n = none := he
    rw [he] at k
    exact (brP_t (show dR D 73 n = none from h0)).mpr (aI_i rfl (k I D FrM.rf GD.rf h))
  | some x =>
    rw [he] at h0
    have he : zP (tS (T, σ, κ)) 0 n = some x := he
    rw [he] at k
    dsimp only at k
    obtain ⟨a, g1, g2⟩ := h0
    rw [g1]
    refine (brP_f (by simp)).mpr ?_
    rw [h3.1]
    refine brP_i (fun q => ?_) (fun q => ?_)
    · have q : T.length ≠ 0 := fun e => q (by rw [e]; rfl)
      rw [if_neg (show ¬ (tT (T, σ, κ)).length = 0 from q)] at k
      refine c_begin h3 (fun I1 f1 P1 => ?_)
      refine c_projection (d := d + 98) (by omega) hz (h.2.1.fr f1) P1 (fun a I2 D2 x2 f2 P2 g2 n2 => ?_)
      rw [sq_inl] at P2 n2
      have x2' := x2.mono XL46
      have fb : PFb I I2 D := (PFa.tr (X := XL) (c := 0) (s := 0) f1.x.a DX.rf f2).b
      refine end_go (d := d + 98) P2 (fun x I3 e1 e2 f3 z3 => ?_) (fun f I3 e1 f3 z3 => ?_)
      · obtain ⟨r3, m3⟩ := h.parsed x2' fb f3 z3
        have e1 : allP (tT (T, σ, κ)) (pjP (tT (T, σ, κ))) = .inl x := e1
        rw [e1] at k
        dsimp only at k
        have hP : isP I3 D2 a (newX x) := newX_is (n2 x [] e2) (pjP_wf h3.2.1 e2).2.2.1 f3
        have r4 := r3.setP (w := 1) (p := n) (v := some a) (x := some (newX x)) (by omega) (by omega) ⟨a, rfl, hP⟩ (h.newP g2 (x2.row46 hz) 74 n)
        refine tsP_i b4 (astP_i (fun b e => ?_) ?_)
        · cases e
          exact hP.k _
        rw [setR_m (show isFn 74 n = false from rfl)]
        exact aI_i rfl (k I3 _ m3 (x2.g (by omega) (by omega)) r4)
      · obtain ⟨r3, m3⟩ := h.parsed x2' fb f3 z3
        have e1 : allP (tT (T, σ, κ)) (pjP (tT (T, σ, κ))) = .inr f := e1
        rw [e1] at k
        rw [flt_e]
        exact aI_i rfl (k I3 D2 m3 (x2.g (by omega) (by omega)) r3)
    · have q : T.length = 0 := by
        have q := Classical.not_not.mp q
        have q : z32 (T.length : Int) = z32 0 := q
        rw [z32_inj (by omega) (by omega) (by omega) (by omega)] at q
        omega
      rw [if_pos (show (tT (T, σ, κ)).length = 0 from q)] at k
      refine onR_i rfl (tsP_i (g2.k _) ?_)
      refine c_afresh (d := d + 97) g2 (fun I2 D2 x2 e2 f2 n2 => ?_)
      have r2 : RC (T, σ, κ) I2 D2 := h.mono (x2.mono XL46) (fun q j g1 g2 => f2 q j g1) (h3.lo (f2 _ _ (by omega)) (fun j => f2 _ _ (by omega)))
      have r4 := r2.setP (w := 1) (p := n) (v := some (dZ D)) (x := some (newJ x)) (by omega) (by omega) ⟨_, rfl, n2⟩ (h.newP (Nat.le_refl _) (x2.row46 hz) 74 n)
      refine tsP_i b4 (astP_i (fun b e => ?_) ?_)
      · cases e
        exact n2.k _
      rw [setR_m (show isFn 74 n = false from rfl)]
      exact aI_i rfl (k I2 _ (fun q j g1 g2 => f2 q j (by omega)) (x2.g (by omega) (by omega)) r4)
theorem dset_comm {x y p q : Nat} {v w : Option Nat} (h : x ≠ y) : dset (dset D x p v) y q w = dset (dset D y q w) x p v := by
  have e : up2 (up2 (dR D) x p v) y q w = up2 (up2 (dR D) y q w) x p v := by
    funext a k
    by_cases e1 : a = x
    · subst e1
      rw [up2_ne h]
      by_cases e2 : k = p
      · subst e2
        rw [up2_eq, up2_eq]
      · rw [up2_nj e2, up2_nj e2, up2_ne h]
    · rw [up2_ne (f := up2 (dR D) y q w) e1]
      by_cases e2 : a = y ∧ k = q
      · rw [e2.1, e2.2, up2_eq, up2_eq]
      · rw [show up2 (up2 (dR D) x p v) y q w a k = up2 (dR D) x p v a k from if_neg e2, show up2 (dR D) y q w a k = dR D a k from if_neg e2, up2_ne e1]
  show (dZ D, dL D, dK D, dN D, up2 (up2 (dR D) x p v) y q w, dW D) = (dZ D, dL D, dK D, dN D, up2 (up2 (dR D) y q w) x p v, dW D)
  rw [e]
def S_swap (τ : ST) (p : Int32) : ST × Int32 := if 0 ≤ p ∧ p ≤ 3 then (match zP (tS τ) 1 (aN p) with
  | none => (τ, -5)
  | some y => (match zP (tS τ) 0 (aN p) with
    | none => ((tT τ, setPJ (setPJ (tS τ) 1 (aN p) none) 0 (aN p) (some y), tI τ), z32 (jP y : Int))
    | some x => if jP x ≤ jP y then ((tT τ, setPJ (setPJ (tS τ) 1 (aN p) none) 0 (aN p) (some y), tI τ), z32 (jP y : Int)) else (τ, -5))) else (τ, -1)
theorem p_swap {τ : ST} {K : Int32 → IM → DY → Prop} (h : RC τ I D) (p : Int32) (k : ∀ I2 D2, FrM I I2 → GD D D2 → RC (S_swap τ p).1 I2 D2 → K (S_swap τ p).2 I2 D2) : AI (d + 100) 124 [vR (some 45), vI p] (mm I D) K := by
  obtain ⟨T, σ, κ⟩ := τ
  unfold S_swap at k
  refine s_S_swap _ ?_
  rw [e_isSlot]
  refine br1 (fun hs => ?_) (fun hs => aI_i rfl ?_)
  rotate_left
  · rw [if_neg hs] at k
    exact k I D FrM.rf GD.rf h
  rw [if_pos hs] at k
  obtain ⟨n, rfl, hn⟩ := rng (m := 3) (by omega) hs
  rw [aN_z (by omega)] at k
  have b4 : inB (z32 (n : Int)) 4 := inB_n (by omega) (by omega)
  have h0 : PO I D 73 n (zP σ 0 n) := h.sl (w := 0) (by omega) (by omega)
  have h1 : PO I D 74 n (zP σ 1 n) := h.sl (w := 1) (by omega) (by omega)
  refine tsP_i b4 (tsP_i b4 ?_)
  rw [ix_n (by omega)]
  cases he : zP σ 1 n with
  | none =>
    rw [he] at h1
    have he : zP (tS (T, σ, κ)) 1 n = none := he
    rw [he] at k
    exact (brP_t (show dR D 74 n = none from h1)).mpr (aI_i rfl (k I D FrM.rf GD.rf h))
  | some y =>
    rw [he] at h1
    have he : zP (tS (T, σ, κ)) 1 n = some y := he
    rw [he] at k
    dsimp only at k
    obtain ⟨b, g1, g2⟩ := h1
    rw [g1]
    refine (brP_f (by simp)).mpr ?_
    have hb6 : I b 6 = z32 (jP y : Int) := g2.2.2.2.1.2.2.2.2
    have r1 := h.setP (w := 1) (p := n) (v := none) (x := none) (by omega) (by omega) rfl (fun a y q e => by cases e)
    have r2 := r1.setP (w := 0) (p := n) (v := some b) (x := some y) (by omega) (by omega) ⟨b, rfl, g2.ds (by omega)⟩ (fun a z q e hz hq hd => by
      cases e
      have hd : up2 (dR D) 74 n none z q = some b := hd
      by_cases e2 : z = 74 ∧ q = n
      · rw [e2.1, e2.2, up2_eq] at hd
        cases hd
      · rw [show up2 (dR D) 74 n none z q = dR D z q from if_neg e2] at hd
        have := h.2.2.2.2.2.2.2.2.1 z q 74 n b hz (by omega) hq (by omega) hd g1
        omega)
    have r2 : RC (T, setPJ (setPJ σ 1 n none) 0 n (some y), κ) I (dset (dset D 73 n (some b)) 74 n none) := by
      rw [dset_comm (by omega)]
      exact r2
    have fin : (∀ I2 D2, FrM I I2 → GD D D2 → RC (T, setPJ (setPJ σ 1 n none) 0 n (some y), κ) I2 D2 → K (z32 (jP y : Int)) I2 D2) → tsP (inB (z32 (n : Int)) 4) (astP (mm I D) 73 (some b) (tsP (inB (z32 (n : Int)) 4) (onR False (some b) (fun a1 => tsP (pKd (setR (setR (mm I D) 73 n (some b)) 74 n none) a1 = 7) (aI K (some (vI (I a1 6))) (setR (setR (mm I D) 73 n (some b)) 74 n none)))))) := by
      intro k
      refine tsP_i b4 (astP_i (fun c e => ?_) (tsP_i b4 (onR_i rfl ?_)))
      · cases e
        exact g2.k _
      rw [setR_m (show isFn 73 n = false from rfl), setR_m (show isFn 74 n = false from rfl), hb6]
      exact tsP_i (((g2.ds (x := 73) (p := n) (v := some b) (by omega)).ds (x := 74) (p := n) (v := none) (by omega)).k _) (aI_i rfl (k I _ FrM.rf GD.rf r2))
    cases hl : zP σ 0 n with
    | none =>
      rw [hl] at h0
      have hl : zP (tS (T, σ, κ)) 0 n = none := hl
      rw [hl] at k
      exact (brP_t (show dR D 73 n = none from h0)).mpr (fin k)
    | some x =>
      rw [hl] at h0
      have hl : zP (tS (T, σ, κ)) 0 n = some x := hl
      rw [hl] at k
      dsimp only at k
      obtain ⟨a, g3, g4⟩ := h0
      rw [g3]
      have ha6 : I a 6 = z32 (jP x : Int) := g4.2.2.2.1.2.2.2.2
      have c1 := g2.2.2.2.2.2.2.2
      have c2 := g4.2.2.2.2.2.2.2
      refine (brP_f (by simp)).mpr (onR_i rfl (tsP_i (g2.k _) (onR_i rfl (tsP_i (g4.k _) ?_))))
      rw [ha6, hb6]
      refine brP_i (fun q => ?_) (fun q => aI_i rfl ?_)
      · rw [z32_le (by omega) (by omega) (by omega) (by omega)] at q
        rw [if_pos (by omega)] at k
        exact fin k
      · rw [z32_le (by omega) (by omega) (by omega) (by omega)] at q
        rw [if_neg (by omega)] at k
        exact k I D FrM.rf GD.rf h
theorem e_projOf {K : Option Nat → IM → Prop} {n w : Nat} (hn : n < 4) (hw : w < 2) : CR d 118 [vR (some 54), vI (z32 (n : Int)), vI (z32 (w : Int))] (mm I D) K ↔ K (dR D (73 + w) n) I := by
  refine CR_iff (s_Store_projectionOf _ _ ((brP_f (by rw [z32_0, z32_lt] <;> omega)).mpr ((brP_t (by show _ < z32 4; rw [z32_lt] <;> omega)).mpr ?_)))
  rw [ix_n (by omega)]
  obtain rfl | rfl : w = 0 ∨ w = 1 := by omega
  · exact (brP_f (by decide)).mpr (tsP_i (inB_n hn (by omega)) (qR_i ⟨rfl, rfl⟩))
  · exact (brP_t (by decide)).mpr (tsP_i (inB_n hn (by omega)) (qR_i ⟨rfl, rfl⟩))
def wD (σ : SS) (x : Nat → Int32) : SS := (zL σ, zC σ, zN σ, zA σ, zP σ, zQ σ, zE σ, x, zV σ, zH σ)
theorem SF.im {a : Nat} {I2 : IM} (h : SF D a I I2) (h4 : dW D a = 4) (h3 : dW D (a + 1) = 3) : IMF I I2 D := fun q k h1 h2 h5 => h q k (fun e => by
  rcases e with e | e | e | e | e
  · omega
  · omega
  · rw [e.1] at h5; omega
  · rw [e] at h5; omega
  · omega)
/-- the projection of a slot goes on -/
theorem RC.updP {T : Tx} {σ : SS} {κ : Option SS} {w p a : Nat} {x : PJ} {ld : Nat → Int32} {I2 : IM} (h : RC (T, σ, κ) I D) (hw : w < 2) (hp : p < 4) (hd : dR D (73 + w) p = some a) (hf : SF D a I I2) (hx : isP I2 D a x) (hl : ledP I2 ld) : RC (T, wD (setPJ σ w p (some x)) ld, κ) I2 D := by
  have hold := h.old
  obtain ⟨h1, h2, h3, h4, h5, h6, h7, h8, h9⟩ := h
  obtain ⟨p1, p2, p3, p4, p5, p6, p7, p8⟩ := id hx.1
  have him : IMF I I2 D := hf.im p4 p7
  have lo : ∀ q j, q < 159 → q ≠ 67 → q ≠ 78 → I2 q j = I q j := hf.f p1
  have h3 : TP I T := h3
  obtain ⟨a1, a2, a3, a4, a5, a6, a7, a8, a9⟩ := h5
  have obj : ∀ b, 159 ≤ b → b ≠ a → b ≠ a + 1 → dW D b ≠ 2 → ∀ j, I2 b j = I b j := fun b g1 g2 g3 g4 j => hf b j (by omega)
  refine ⟨h1, h2.mono (fun q hq => funext fun j => lo q j (by omega) (by omega) (by omega)), h3.lo (lo _ _ (by omega) (by omega) (by omega)) (fun j => lo _ _ (by omega) (by omega) (by omega)), (lo _ _ (by omega) (by omega) (by omega)).trans h4, ⟨a1.fr (lo _ _ (by omega) (by omega) (by omega)) (fun k => lo _ _ (by omega) (by omega) (by omega)) (fun k => lo _ _ (by omega) (by omega) (by omega)), a2.fr (fun k => lo _ _ (by omega) (by omega) (by omega)),
    a3.fr (lo _ _ (by omega) (by omega) (by omega)) (fun k => lo _ _ (by omega) (by omega) (by omega)) him, a4.fr (fun k => lo _ _ (by omega) (by omega) (by omega)) (fun k => lo _ _ (by omega) (by omega) (by omega)) (fun k => lo _ _ (by omega) (by omega) (by omega)), fun j hj => (lo _ _ (by omega) (by omega) (by omega)).trans (a5 j hj), fun c hc => ?_, hl,
    (lo _ _ (by omega) (by omega) (by omega)).trans a8, (lo _ _ (by omega) (by omega) (by omega)).trans a9⟩, fun w2 p2 g1 g2 => ?_, ?_, ?_, h9⟩
  · have := a6 c hc
    unfold seenP at this ⊢
    rw [lo (76 + 0) c (by omega) (by omega) (by omega), lo (77 + 0) c (by omega) (by omega) (by omega)]
    exact this
  · show PO I2 D (73 + w2) p2 (if w2 = w ∧ p2 = p then some x else zP σ w2 p2)
    by_cases e : w2 = w ∧ p2 = p
    · rw [if_pos e, e.1, e.2]
      exact ⟨a, hd, hx⟩
    · rw [if_neg e]
      have h0 : PO I D (73 + w2) p2 (zP σ w2 p2) := h6 w2 p2 g1 g2
      refine h0.mono (X := fun _ => False) (c := 0) (s := 0) DX.rf (fun _ q => q.elim) (by omega) (fun b hb j => ?_) him
      obtain ⟨o1, o2, o3⟩ := hold.1 (73 + w2) p2 b (by omega) g2 hb
      have hne : b ≠ a := fun c => by
        rw [c] at hb
        have := h9.1 (73 + w2) p2 (73 + w) p a (by omega) (by omega) g2 hp hb hd
        omega
      have hb1 : b ≠ a + 1 := fun c => by rw [c] at o2; omega
      have k20 : dK D (b + 1) = 20 := by
        unfold PO at h0
        cases hz : zP σ w2 p2 with
        | none => rw [hz] at h0; have h0 : dR D (73 + w2) p2 = none := h0; rw [h0] at hb; cases hb
        | some v =>
          rw [hz] at h0
          obtain ⟨b2, e1, e2⟩ := h0
          rw [e1] at hb
          cases hb
          exact e2.1.2.2.2.2.1
      have wb : dW D b = 4 ∧ dW D (b + 1) = 3 := by
        unfold PO at h0
        cases hz : zP σ w2 p2 with
        | none => rw [hz] at h0; have h0 : dR D (73 + w2) p2 = none := h0; rw [h0] at hb; cases hb
        | some v =>
          rw [hz] at h0
          obtain ⟨b2, e1, e2⟩ := h0
          rw [e1] at hb
          cases hb
          exact ⟨e2.1.2.2.2.1, e2.1.2.2.2.2.2.2.1⟩
      exact ⟨obj b o3 hne hb1 (by omega) j, obj (b + 1) (by omega) (fun c => by rw [c] at k20; omega) (by omega) (by omega) j⟩
  · refine RQ.mono (X := fun _ => False) (c := 0) (s := 0) h7 (by omega) DX.rf (fun _ q => q.elim) h1 (fun p2 b v g1 g2 g3 j => ?_) him
    obtain ⟨q1, q2, q3, q4⟩ := g3.1
    exact obj b q1 (fun c => by rw [c] at q3; omega) (fun c => by rw [c] at q3; omega) (by omega) j
  · have h8 : KP κ I D := h8
    show KP κ I2 D
    cases κ with
    | none => exact h8
    | some κ =>
      obtain ⟨k1, k2, k3⟩ := h8
      refine ⟨k1.fr (fun q j hq => lo q j (by unfold bP at hq; omega) (by unfold bP at hq; omega) (by unfold bP at hq; omega)) him, RP.mono (X := fun _ => False) (c := 0) (s := 0) k2 (by omega) DX.rf (fun _ q => q.elim) h1 (fun w2 p2 b v g1 g2 g3 g4 j => ?_) him, RQ.mono (X := fun _ => False) (c := 0) (s := 0) k3 (by omega) DX.rf (fun _ q => q.elim) h1 (fun p2 b v g1 g2 g3 j => ?_) him⟩
      · obtain ⟨q1, q2, q3, q4, q5, q6, q7, q8⟩ := g4.1
        have hne : b ≠ a := fun c => by
          rw [c] at g3
          have := h9.1 (73 + w2 + 26) p2 (73 + w) p a (by omega) (by omega) g2 hp g3 hd
          omega
        exact ⟨obj b q1 hne (fun c => by rw [c] at q3; omega) (by omega) j, obj (b + 1) (by omega) (fun c => by rw [c] at q5; omega) (by omega) (by omega) j⟩
      · obtain ⟨q1, q2, q3, q4⟩ := g3.1
        exact obj b q1 (fun c => by rw [c] at q3; omega) (fun c => by rw [c] at q3; omega) (by omega) j
def S_deliver (τ : ST) (p w f n : Int32) : ST × Int32 := if (0 ≤ p ∧ p ≤ 3) ∧ (0 ≤ w ∧ w ≤ 1) ∧ ¬ f < 1 ∧ 1 ≤ n ∧ n ≤ 240 then (match zP (tS τ) (aN w) (aN p) with
  | none => (τ, -5)
  | some x => ((tT τ, wD (setPJ (tS τ) (aN w) (aN p) (some (dlv (zC (tS τ)) (zL (tS τ)) (aN n) (aN f) x (zD (tS τ)) 0).1)) (dlv (zC (tS τ)) (zL (tS τ)) (aN n) (aN f) x (zD (tS τ)) 0).2.1, tI τ), z32 ((dlv (zC (tS τ)) (zL (tS τ)) (aN n) (aN f) x (zD (tS τ)) 0).2.2 : Int))) else (τ, -1)
theorem SF.m {a : Nat} {I2 : IM} (h : SF D a I I2) (ha : 159 ≤ a) : FrM I I2 := fun q k g1 g2 => h q k (by omega)
theorem p_deliver {τ : ST} {K : Int32 → IM → Prop} (h : RC τ I D) (wf : WF (tS τ)) (p w f n : Int32) (k : ∀ I2, FrM I I2 → RC (S_deliver τ p w f n).1 I2 D → K (S_deliver τ p w f n).2 I2) : CI (d + 100) 117 [vR (some 45), vI p, vI w, vI f, vI n] (mm I D) K := by
  obtain ⟨T, σ, κ⟩ := τ
  unfold S_deliver at k
  have bad : ¬ ((0 ≤ p ∧ p ≤ 3) ∧ (0 ≤ w ∧ w ≤ 1) ∧ ¬ f < 1 ∧ 1 ≤ n ∧ n ≤ 240) → K (-1) I := fun c => by
    rw [if_neg c] at k
    exact k I FrM.rf h
  refine s_S_deliver _ _ _ _ ?_
  rw [e_isSlot]
  refine br0 (fun hp => ?_) (fun hp => qI_i (bad (fun c => hp c.1)))
  rw [e_within]
  refine br0 (fun hw => brP_i (fun hf => qI_i (bad (fun c => c.2.2.1 hf))) (fun hf => ?_)) (fun hw => qI_i (bad (fun c => hw c.2.1)))
  rw [e_within]
  refine br1 (fun hn => ?_) (fun hn => qI_i (bad (fun c => hn c.2.2.2)))
  rw [if_pos ⟨hp, hw, hf, hn⟩] at k
  obtain ⟨pn, rfl, hpn⟩ := rng (m := 3) (by omega) hp
  obtain ⟨wn, rfl, hwn⟩ := rng (m := 1) (by omega) hw
  obtain ⟨nn, rfl, hnn⟩ := rng1 (m := 240) (by omega) hn
  have hfb := i32_b f
  have hf : ¬ f < z32 1 := hf
  rw [lt_lit (by omega) (by omega)] at hf
  have ef : f = z32 ((aN f : Nat) : Int) := by
    have := z32_of f
    unfold aN
    rw [show ((f.toInt.toNat : Nat) : Int) = f.toInt by omega]
    exact this
  have hf2 : 1 ≤ aN f ∧ aN f ≤ 2147483647 := by unfold aN; omega
  rw [aN_z (by omega), aN_z (by omega), aN_z (by omega)] at k
  rw [e_projOf (by omega) (by omega)]
  have h0 : PO I D (73 + wn) pn (zP σ wn pn) := h.sl (by omega) (by omega)
  cases he : zP σ wn pn with
  | none =>
    rw [he] at h0
    have he : zP (tS (T, σ, κ)) wn pn = none := he
    rw [he] at k
    exact (brP_t (show dR D (73 + wn) pn = none from h0)).mpr (qI_i (k I FrM.rf h))
  | some x =>
    rw [he] at h0
    have he : zP (tS (T, σ, κ)) wn pn = some x := he
    rw [he] at k
    dsimp only at k
    obtain ⟨a, g1, g2⟩ := h0
    rw [g1, ef]
    refine (brP_f (by simp)).mpr ?_
    have hl : ledP I (zD σ) := h.b.2.2.2.2.2.2.1
    refine c_handOver (d := d + 94) (C := zC σ) (L := zL σ) hnn hf2 wf.1 h.L h.M g2 hl (fun I2 s2 x2 l2 => qI_i ?_)
    exact k I2 (s2.m g2.1.1) (h.updP (by omega) (by omega) g1 s2 x2 l2)
def S_look (τ : ST) (p w q : Int32) : Int32 := if (0 ≤ p ∧ p ≤ 3) ∧ (0 ≤ w ∧ w ≤ 1) ∧ 0 ≤ q ∧ q ≤ 4 then (match zP (tS τ) (aN w) (aN p) with
  | none => VD
  | some x => if q = 0 then z32 (jP x : Int) else if q = 1 then z32 (ppc (mskR (jR x)) : Int) else if q = 2 then z32 ((zL (tS τ)).length : Int) - z32 (jP x : Int) else if q = 3 then (if rsame (jR x) (jR (truV (zC (tS τ)) (zL (tS τ)) (jP x) 1 (newJ x))) (List.range' 0 9) = 0 then 0 else 1) else rsum (jR x) (List.range' 0 9) 0) else VD
theorem p_look {τ : ST} {K : Int32 → IM → DY → Prop} (h : RC τ I D) (wf : WF (tS τ)) (p w q : Int32) (k : ∀ I2 D2, FrM I I2 → GD D D2 → RC τ I2 D2 → K (S_look τ p w q) I2 D2) : AI (d + 100) 125 [vR (some 45), vI p, vI w, vI q] (mm I D) K := by
  obtain ⟨T, σ, κ⟩ := τ
  have h3 : TP I T := h.2.2.1
  unfold S_look at k
  have bad : ¬ ((0 ≤ p ∧ p ≤ 3) ∧ (0 ≤ w ∧ w ≤ 1) ∧ 0 ≤ q ∧ q ≤ 4) → K VD I D := fun c => by
    rw [if_neg c] at k
    exact k I D FrM.rf GD.rf h
  refine s_S_look _ _ _ ?_
  rw [e_isSlot]
  refine br0 (fun hp => ?_) (fun hp => aI_i rfl (bad (fun c => hp c.1)))
  rw [e_within]
  refine br0 (fun hw => ?_) (fun hw => aI_i rfl (bad (fun c => hw c.2.1)))
  rw [e_within]
  refine br1 (fun hq => ?_) (fun hq => aI_i rfl (bad (fun c => hq c.2.2)))
  rw [if_pos ⟨hp, hw, hq⟩] at k
  obtain ⟨pn, rfl, hpn⟩ := rng (m := 3) (by omega) hp
  obtain ⟨wn, rfl, hwn⟩ := rng (m := 1) (by omega) hw
  rw [aN_z (by omega), aN_z (by omega)] at k
  rw [e_projOf (by omega) (by omega)]
  have h0 : PO I D (73 + wn) pn (zP σ wn pn) := h.sl (by omega) (by omega)
  cases he : zP σ wn pn with
  | none =>
    rw [he] at h0
    have he : zP (tS (T, σ, κ)) wn pn = none := he
    rw [he] at k
    exact (brP_t (show dR D (73 + wn) pn = none from h0)).mpr (aI_i rfl (k I D FrM.rf GD.rf h))
  | some x =>
    rw [he] at h0
    have he : zP (tS (T, σ, κ)) wn pn = some x := he
    rw [he] at k
    dsimp only at k
    obtain ⟨a, g1, g2⟩ := h0
    rw [g1]
    have ha6 : I a 6 = z32 (jP x : Int) := g2.2.2.2.1.2.2.2.2
    have ha5 : I a 5 = z32 (mskR (jR x) : Int) := g2.2.2.2.1.2.2.2.1
    have same := k I D FrM.rf GD.rf h
    refine (brP_f (by simp)).mpr (brP_i (fun c => onR_i rfl (tsP_i (g2.k _) (aI_i rfl ?_))) (fun c => ?_))
    · rw [if_pos c] at same
      rw [ha6]
      exact same
    rw [if_neg c] at k same
    refine brP_i (fun c => onR_i rfl (tsP_i (g2.k _) ?_)) (fun c => ?_)
    · rw [if_pos (show q = 1 from c)] at same
      refine s_Projection_size _ (tsP_i (g2.k _) ?_)
      rw [ha5, e_bitCount (mskR_lt _)]
      exact qI_i (aI_i rfl same)
    rw [if_neg (show ¬ q = 1 from c)] at k same
    refine brP_i (fun c => onR_i rfl (tsP_i (g2.k _) (aI_i rfl ?_))) (fun c => ?_)
    · rw [if_pos (show q = 2 from c)] at same
      rw [ha6, h.L.1]
      exact same
    rw [if_neg (show ¬ q = 2 from c)] at k same
    refine brP_i (fun c => ?_) (fun c => onR_i rfl (tsP_i (g2.k _) ?_))
    · rw [if_pos (show q = 3 from c)] at k
      refine c_isTrue (d := d + 94) (σ := σ) wf.1 h.b g2 (fun I2 D2 x2 f2 => ?_)
      have r2 : RC (T, σ, κ) I2 D2 := h.mono (x2.mono XL46) (fun q j g1 g2 => f2 q j g1 (by unfold CSp at g2; omega)) (h3.lo (f2 _ _ (by have := h.1; omega) (by omega)) (fun j => f2 _ _ (by have := h.1; omega) (by omega)))
      have k := k I2 D2 (fun q j g1 g2 => f2 q j (by have := h.1; omega) (by omega)) (x2.g (by omega) (by omega)) r2
      refine brP_i (fun z => aI_i rfl ?_) (fun z => aI_i rfl ?_)
      · rw [if_pos z] at k
        exact k
      · rw [if_neg z] at k
        exact k
    · rw [if_neg (show ¬ q = 3 from c)] at same
      exact c_psum (d := d + 98) g2 (aI_i rfl same)
def S_row (τ : ST) (p w q : Int32) : Int32 := if (0 ≤ p ∧ p ≤ 3) ∧ (0 ≤ w ∧ w ≤ 1) ∧ 0 ≤ q ∧ q ≤ 8 then (match zP (tS τ) (aN w) (aN p) with
  | none => VD
  | some x => (match jR x (aN q) with
    | none => VD
    | some v => v)) else VD
theorem p_row {τ : ST} {K : Int32 → IM → Prop} (h : RC τ I D) (p w q : Int32) (k : ∀ I2, FrM I I2 → RC τ I2 D → K (S_row τ p w q) I2) : CI (d + 100) 131 [vR (some 45), vI p, vI w, vI q] (mm I D) K := by
  obtain ⟨T, σ, κ⟩ := τ
  have k := k I FrM.rf h
  unfold S_row at k
  have bad : ¬ ((0 ≤ p ∧ p ≤ 3) ∧ (0 ≤ w ∧ w ≤ 1) ∧ 0 ≤ q ∧ q ≤ 8) → K VD I := fun c => by
    rw [if_neg c] at k
    exact k
  refine s_S_row _ _ _ ?_
  rw [e_isSlot]
  refine br0 (fun hp => ?_) (fun hp => qI_i (bad (fun c => hp c.1)))
  rw [e_within]
  refine br0 (fun hw => ?_) (fun hw => qI_i (bad (fun c => hw c.2.1)))
  rw [e_within]
  refine br1 (fun hq => ?_) (fun hq => qI_i (bad (fun c => hq c.2.2)))
  rw [if_pos ⟨hp, hw, hq⟩] at k
  obtain ⟨pn, rfl, hpn⟩ := rng (m := 3) (by omega) hp
  obtain ⟨wn, rfl, hwn⟩ := rng (m := 1) (by omega) hw
  obtain ⟨qn, rfl, hqn⟩ := rng (m := 8) (by omega) hq
  rw [aN_z (by omega), aN_z (by omega), aN_z (by omega)] at k
  rw [e_projOf (by omega) (by omega)]
  have h0 : PO I D (73 + wn) pn (zP σ wn pn) := h.sl (by omega) (by omega)
  cases he : zP σ wn pn with
  | none =>
    rw [he] at h0
    have he : zP (tS (T, σ, κ)) wn pn = none := he
    rw [he] at k
    exact (brP_t (show dR D (73 + wn) pn = none from h0)).mpr (qI_i k)
  | some x =>
    rw [he] at h0
    have he : zP (tS (T, σ, κ)) wn pn = some x := he
    rw [he] at k
    dsimp only at k
    obtain ⟨a, g1, g2⟩ := h0
    rw [g1]
    refine (brP_f (by simp)).mpr (onR_i rfl (tsP_i (g2.k _) ?_))
    rw [e_phas g2 (by omega)]
    cases hv : jR x qn with
    | none =>
      rw [hv] at k
      exact (brP_t (b32_f (by decide))).mpr (qI_i k)
    | some v =>
      rw [hv] at k
      refine (brP_f (by rw [b32_t (show (some v).isSome = true from rfl)]; decide)).mpr (onR_i rfl (tsP_i (g2.k _) (onR_i (g2.r4 _) (tsP_i (g2.k1 _) (tsP_i (by rw [g2.l1]; exact inB_n (by omega) (by omega)) (qI_i ?_))))))
      rw [ix_n (by omega), g2.2.2.2.2.1 qn v (by omega) hv]
      exact k
/-! policies -/
def setQS (σ : SS) (p : Nat) (x : QL) : SS := wQ σ (updF (zQ σ) p (some x))
theorem RC.ql {T : Tx} {σ : SS} {κ : Option SS} {p : Nat} (h : RC (T, σ, κ) I D) (hp : p < 4) : QO I D 75 p (zQ σ p) := h.2.2.2.2.2.2.1 p hp
def S_policyOf (τ : ST) (p w : Int32) : Int32 := if (0 ≤ p ∧ p ≤ 3) ∧ 0 ≤ w ∧ w ≤ 2 then (match zQ (tS τ) (aN p) with
  | none => -5
  | some x => if w = 0 then z32 (qlP x : Int) else if w = 1 then qlD x else qlR x) else -1
def S_run (τ : ST) (p n : Int32) : ST × Int32 := if (0 ≤ p ∧ p ≤ 3) ∧ 1 ≤ n ∧ n ≤ 240 then (match zQ (tS τ) (aN p) with
  | none => (τ, -5)
  | some x => ((tT τ, setQS (ranS (aN n) (tS τ) x 0).1 (aN p) (ranS (aN n) (tS τ) x 0).2.1, tI τ), z32 ((ranS (aN n) (tS τ) x 0).2.2 : Int))) else (τ, -1)
theorem hndS_PQ {σ : SS} {x : QL} {e : EV} : zP (hndS σ x e).1 = zP σ ∧ zQ (hndS σ x e).1 = zQ σ := by
  unfold hndS
  repeat' split
  · exact carS_PQ
  · exact carS_PQ
  · exact carS_PQ
  · exact ⟨rfl, rfl⟩
theorem ranS_PQ : ∀ (n : Nat) (σ : SS) (x : QL) (h : Nat), zP (ranS n σ x h).1 = zP σ ∧ zQ (ranS n σ x h).1 = zQ σ := by
  intro n
  induction n with
  | zero => intro σ x h; exact ⟨rfl, rfl⟩
  | succ n ih =>
    intro σ x h
    unfold ranS
    split
    · exact ⟨rfl, rfl⟩
    · rename_i e _
      split
      · have h1 := ih (hndS σ x e).1 (setQ (hndS σ x e).2.1 (qlP x + 1) (qlD (hndS σ x e).2.1) (qlR (hndS σ x e).2.1)) (h + 1)
        exact ⟨h1.1.trans hndS_PQ.1, h1.2.trans hndS_PQ.2⟩
      · exact hndS_PQ
theorem NF.m {a : Nat} {I2 : IM} (h : NF D a I I2) (ha : 159 ≤ a) : FrM I I2 := fun q k g1 g2 => h q k (by omega)
theorem RC.updQ {T : Tx} {σ σ' : SS} {κ : Option SS} {p a : Nat} {x : QL} {I2 : IM} (h : RC (T, σ, κ) I D) (hp : p < 4) (hd : dR D 75 p = some a) (hf : NF D a I I2) (hx : isQ I2 D a x) (hB : RB 0 σ' I2 D) (hP : zP σ' = zP σ) (hQ : zQ σ' = zQ σ) : RC (T, setQS σ' p x, κ) I2 D := by
  have hold := h.old
  obtain ⟨h1, h2, h3, h4, h5, h6, h7, h8, h9⟩ := h
  obtain ⟨p1, p2, p3, p4⟩ := id hx.1
  have him : IMF I I2 D := fun q k g1 g2 g3 => hf q k (fun e => by
    rcases e with e | e | e | e | e | e | e | e | e | e | e
    all_goals first
      | omega
      | (rw [e.1] at g3; omega))
  have h3 : TP I T := h3
  have lo : ∀ q j, q < 54 ∨ (79 ≤ q ∧ q < 159) → I2 q j = I q j := fun q j g => hf q j (by omega)
  have obj : ∀ b, 159 ≤ b → b ≠ a → dW D b ≠ 2 → ∀ j, I2 b j = I b j := fun b g1 g2 g3 j => hf b j (by omega)
  refine ⟨h1, h2.mono (fun q hq => funext fun j => lo q j (by omega)), h3.lo (lo _ _ (by omega)) (fun j => lo _ _ (by omega)), (lo _ _ (by omega)).trans h4, hB.same rfl rfl rfl rfl rfl rfl rfl rfl, ?_, fun p2 g1 => ?_, ?_, h9⟩
  · have := RP.mono (X := fun _ => False) (c := 0) (s := 0) h6 (by omega) DX.rf (fun _ q => q.elim) h1 (I2 := I2) (fun w2 p2 b v g1 g2 g3 g4 j => by
      obtain ⟨q1, q2, q3, q4, q5, q6, q7, q8⟩ := g4.1
      exact ⟨obj b q1 (fun c => by rw [c] at q3; omega) (by omega) j, obj (b + 1) (by omega) (fun c => by rw [c] at q5; omega) (by omega) j⟩) him
    intro w2 p2 g1 g2
    show PO _ _ _ _ (zP σ' w2 p2)
    rw [hP]
    exact this w2 p2 g1 g2
  · show QO I2 D 75 p2 (updF (zQ σ') p (some x) p2)
    by_cases e : p2 = p
    · subst e
      rw [updF_eq]
      exact ⟨a, hd, hx⟩
    · rw [updF_ne e, hQ]
      have h0 : QO I D 75 p2 (zQ σ p2) := h7 p2 g1
      refine h0.mono (X := fun _ => False) (c := 0) (s := 0) DX.rf (fun _ q => q.elim) (by omega) (fun b hb j => ?_) him
      have wb : dW D b = 5 := by
        unfold QO at h0
        cases hz : zQ σ p2 with
        | none => rw [hz] at h0; have h0 : dR D 75 p2 = none := h0; rw [h0] at hb; cases hb
        | some v =>
          rw [hz] at h0
          obtain ⟨b2, e1, e2⟩ := h0
          rw [e1] at hb
          cases hb
          exact e2.1.2.2.2
      obtain ⟨o1, o2, o3⟩ := hold.2 75 p2 b (by omega) g1 hb
      exact obj b o3 (fun c => by
        rw [c] at hb
        have := h9.2 75 p2 75 p a (by omega) (by omega) g1 hp hb hd
        omega) (by omega) j
  · have h8 : KP κ I D := h8
    show KP κ I2 D
    cases κ with
    | none => exact h8
    | some κ =>
      obtain ⟨k1, k2, k3⟩ := h8
      refine ⟨k1.fr (fun q j hq => lo q j (by unfold bP at hq; omega)) him, RP.mono (X := fun _ => False) (c := 0) (s := 0) k2 (by omega) DX.rf (fun _ q => q.elim) h1 (fun w2 p2 b v g1 g2 g3 g4 j => ?_) him, RQ.mono (X := fun _ => False) (c := 0) (s := 0) k3 (by omega) DX.rf (fun _ q => q.elim) h1 (fun p2 b v g1 g2 g3 j => ?_) him⟩
      · obtain ⟨q1, q2, q3, q4, q5, q6, q7, q8⟩ := g4.1
        exact ⟨obj b q1 (fun c => by rw [c] at q3; omega) (by omega) j, obj (b + 1) (by omega) (fun c => by rw [c] at q5; omega) (by omega) j⟩
      · obtain ⟨q1, q2, q3, q4⟩ := g3.1
        exact obj b q1 (fun c => by
          rw [c] at g2
          have := h9.2 (75 + 26) p2 75 p a (by omega) (by omega) g1 hp g2 hd
          omega) (by omega) j
theorem p_run {τ : ST} {K : Int32 → IM → Prop} (h : RC τ I D) (wf : WF (tS τ)) (p n : Int32) (k : ∀ I2, FrM I I2 → RC (S_run τ p n).1 I2 D → K (S_run τ p n).2 I2) : CI (d + 100) 135 [vR (some 45), vI p, vI n] (mm I D) K := by
  obtain ⟨T, σ, κ⟩ := τ
  unfold S_run at k
  refine s_S_run _ _ ?_
  rw [e_isSlot]
  refine br0 (fun hp => ?_) (fun hp => qI_i ?_)
  rotate_left
  · rw [if_neg (fun c => hp c.1)] at k
    exact k I FrM.rf h
  rw [e_within]
  refine br1 (fun hn => ?_) (fun hn => qI_i ?_)
  rotate_left
  · rw [if_neg (fun c => hn c.2)] at k
    exact k I FrM.rf h
  rw [if_pos ⟨hp, hn⟩] at k
  obtain ⟨pn, rfl, hpn⟩ := rng (m := 3) (by omega) hp
  obtain ⟨nn, rfl, hnn⟩ := rng1 (m := 240) (by omega) hn
  rw [aN_z (by omega), aN_z (by omega)] at k
  refine tsP_i (inB_n (by omega) (by omega)) ?_
  rw [ix_n (by omega)]
  have h0 : QO I D 75 pn (zQ σ pn) := h.ql (by omega)
  cases he : zQ σ pn with
  | none =>
    rw [he] at h0
    have he : zQ (tS (T, σ, κ)) pn = none := he
    rw [he] at k
    exact (brP_t (show dR D 75 pn = none from h0)).mpr (qI_i (k I FrM.rf h))
  | some x =>
    rw [he] at h0
    have he : zQ (tS (T, σ, κ)) pn = some x := he
    rw [he] at k
    dsimp only at k
    obtain ⟨a, g1, g2⟩ := h0
    rw [g1]
    refine (brP_f (by simp)).mpr ?_
    have hb : RB 0 σ I D := h.b
    refine c_runPolicy (d := d + 93) hnn wf.1 wf.2.2.1 hb g2 (fun I2 n2 b2 x2 => qI_i ?_)
    obtain ⟨e1, e2⟩ := ranS_PQ (nn + 1) σ x 0
    exact k I2 (n2.m g2.1.1) (h.updQ (by omega) g1 n2 x2 b2 e1 e2)
def newQL (x : Int32 × Tx × Cm) (p : Nat) : QL := (x.1, x.2.1, x.2.2, p, 0, 0)
def S_policy (τ : ST) (p : Int32) : ST × Int32 := if 0 ≤ p ∧ p ≤ 3 then (match allP (tT τ) (plP (tT τ)) with
  | .inr f => (([], tS τ, tI τ), fltV f)
  | .inl x => (([], setQS (tS τ) (aN p) (newQL x (zL (tS τ)).length), tI τ), 1)) else (τ, -1)
theorem p_policy {τ : ST} {K : Int32 → IM → DY → Prop} (h : RC τ I D) (p : Int32) (k : ∀ I2 D2, FrM I I2 → GD D D2 → RC (S_policy τ p).1 I2 D2 → K (S_policy τ p).2 I2 D2) : AI (d + 100) 132 [vR (some 45), vI p] (mm I D) K := by
  obtain ⟨T, σ, κ⟩ := τ
  have h3 : TP I T := h.2.2.1
  have hz := h.1
  have hl : (zL σ).length ≤ 240 := h.L.2.1
  unfold S_policy at k
  refine s_S_policy _ ?_
  rw [e_isSlot]
  refine br1 (fun hs => ?_) (fun hs => aI_i rfl ?_)
  rotate_left
  · rw [if_neg hs] at k
    exact k I D FrM.rf GD.rf h
  rw [if_pos hs] at k
  obtain ⟨n, rfl, hn⟩ := rng (m := 3) (by omega) hs
  rw [aN_z (by omega)] at k
  refine c_begin h3 (fun I1 f1 P1 => ?_)
  refine c_policyText (d := d + 98) (by omega) hz (h.2.1.fr f1) P1 (fun a I2 D2 x2 f2 P2 g2 n2 => ?_)
  rw [sq_inl] at P2 n2
  have x2' := x2.mono XL46
  have fb : PFb I I2 D := (PFa.tr (X := XL) (c := 0) (s := 0) f1.x.a DX.rf f2).b
  refine end_go (d := d + 98) P2 (fun x I3 e1 e2 f3 z3 => ?_) (fun f I3 e1 f3 z3 => ?_)
  · obtain ⟨r3, m3⟩ := h.parsed x2' fb f3 z3
    have e1 : allP (tT (T, σ, κ)) (plP (tT (T, σ, κ))) = .inl x := e1
    rw [e1] at k
    dsimp only at k
    obtain ⟨w1, w2, -⟩ := plP_wf h3.2.1 e2
    have i3 : IMF I2 I3 D2 := fun q j h1 _ _ => f3 q j (fun e => by omega)
    obtain ⟨q1, q2, q3, q4, q5, q6, q7, q8, ⟨fo, q9, q10⟩, co, q11, q12⟩ := n2 x [] e2
    have g3 : ∀ j, I3 a j = I2 a j := fun j => f3 a j (fun e => by omega)
    have e4 : I3 55 4 = z32 ((zL σ).length : Int) := r3.L.1
    rw [e4]
    have ha6 : ∀ J, pKd (mm J D2) a = 6 := fun J => (mmK q1).trans q3
    have i4 : IMF I3 (up2 I3 a 3 (z32 ((zL σ).length : Int))) D2 := fun q j _ _ hw => up2_ne (fun c => by rw [c] at hw; omega)
    have hQ : isQ (up2 I3 a 3 (z32 ((zL σ).length : Int))) D2 a (newQL x (zL σ).length) := ⟨⟨q1, q2, q3, q4⟩, ⟨fo, q9, (q10.qf i3).qf i4⟩, w1, ⟨co, q11, (q12.mf i3).mf i4⟩, w2, ⟨(up2_nj (by omega)).trans ((g3 0).trans q5), up2_eq, (up2_nj (by omega)).trans ((g3 4).trans q7), (up2_nj (by omega)).trans ((g3 5).trans q8)⟩, hl⟩
    have hd : DX (fun q => q = 75) D2 (dset D2 75 n (some a)) 0 0 := DX.set rfl
    have hnew : ∀ y q, (y = 75 ∨ y = 101) → q < 4 → dR D2 y q ≠ some a := fun y q hy hq e => by
      rw [(x2.2.2.2 y (by omega)).2.2.2 (fun e => by have e : y = 46 := e; omega) q] at e
      have := (h.old.2 y q a hy hq e).1
      omega
    have r5 : RC ([], setQS σ n (newQL x (zL σ).length), κ) (up2 I3 a 3 (z32 ((zL σ).length : Int))) (dset D2 75 n (some a)) := by
      have r4 : RC ([], σ, κ) (up2 I3 a 3 (z32 ((zL σ).length : Int))) D2 := by
        obtain ⟨h1, h2, h3, h4, h5, h6, h7, h8, h9⟩ := r3
        have lo : ∀ q j, q < 159 → up2 I3 a 3 (z32 ((zL σ).length : Int)) q j = I3 q j := fun q j hq => up2_ne (by omega)
        have h3 : TP I3 [] := h3
        have hnq : ∀ (o : Nat) (p2 : Nat) (b : Nat), (75 + o = 75 ∨ 75 + o = 101) → p2 < 4 → dR D2 (75 + o) p2 = some b → b ≠ a := fun o p2 b ho hp2 hb c => hnew (75 + o) p2 ho hp2 (by rw [hb, c])
        have objP : ∀ b v, isP I3 D2 b v → ∀ j, up2 I3 a 3 (z32 ((zL σ).length : Int)) b j = I3 b j ∧ up2 I3 a 3 (z32 ((zL σ).length : Int)) (b + 1) j = I3 (b + 1) j := fun b v hb j => by
          obtain ⟨u1, u2, u3, u4, u5, u6, u7, u8⟩ := hb.1
          exact ⟨up2_ne (fun c => by rw [c] at u3; omega), up2_ne (fun c => by rw [c] at u5; omega)⟩
        refine ⟨h1, h2.mono (fun q hq => funext fun j => lo q j (by omega)), h3.lo (lo _ _ (by omega)) (fun j => lo _ _ (by omega)), (lo _ _ (by omega)).trans h4, h5.fr (fun q j hq => lo q j (by unfold bP at hq; omega)) i4, RP.mono (X := fun _ => False) (c := 0) (s := 0) h6 (by omega) DX.rf (fun _ q => q.elim) h1 (fun w2 p2 b v g1 g2 g3 g4 => objP b v g4) i4, RQ.mono (X := fun _ => False) (c := 0) (s := 0) h7 (by omega) DX.rf (fun _ q => q.elim) h1 (fun p2 b v g1 g2 g3 j => up2_ne (hnq 0 p2 b (by omega) g1 g2)) i4, ?_, h9⟩
        have h8 : KP κ I3 D2 := h8
        show KP κ _ D2
        cases κ with
        | none => exact h8
        | some κ =>
          obtain ⟨k1, k2, k3⟩ := h8
          exact ⟨k1.fr (fun q j hq => lo q j (by unfold bP at hq; omega)) i4, RP.mono (X := fun _ => False) (c := 0) (s := 0) k2 (by omega) DX.rf (fun _ q => q.elim) h1 (fun w2 p2 b v g1 g2 g3 g4 => objP b v g4) i4, RQ.mono (X := fun _ => False) (c := 0) (s := 0) k3 (by omega) DX.rf (fun _ q => q.elim) h1 (fun p2 b v g1 g2 g3 j => up2_ne (hnq 26 p2 b (by omega) g1 g2)) i4⟩
      obtain ⟨h1, h2, h3, h4, h5, h6, h7, h8, h9⟩ := r4
      refine ⟨h1, h2, h3, h4, (h5.mono (by omega) hd (fun a q => by omega) h1 (fun _ _ _ => rfl) IMF.rf).same rfl rfl rfl rfl rfl rfl rfl rfl, RP.mono h6 (by omega) hd (fun a q => by omega) h1 (fun _ _ _ _ _ _ _ _ _ => ⟨rfl, rfl⟩) IMF.rf, fun p2 g1 => ?_, ?_, ?_⟩
      · show QO _ _ 75 p2 (updF (zQ σ) n (some (newQL x (zL σ).length)) p2)
        by_cases e : p2 = n
        · subst e
          rw [updF_eq]
          exact ⟨a, dR_s, hQ.mono hd (fun b hb e => by omega) (fun _ => rfl) IMF.rf⟩
        · rw [updF_ne e]
          have h0 : QO (up2 I3 a 3 (z32 ((zL σ).length : Int))) D2 75 p2 (zQ σ p2) := h7 p2 g1
          have er : up2 (dR D2) 75 n (some a) 75 p2 = dR D2 75 p2 := up2_nj e
          unfold QO at h0 ⊢
          cases hz : zQ σ p2 with
          | none => rw [hz] at h0; exact er.trans h0
          | some v =>
            rw [hz] at h0
            obtain ⟨b, e1, e2⟩ := h0
            exact ⟨b, er.trans e1, e2.mono hd (fun b hb e => by omega) (fun _ => rfl) IMF.rf⟩
      · exact h8.mono h1 hd (fun a q => by omega) (fun _ _ _ _ => rfl)
      · refine ⟨fun y q z r b hy hz2 hq hr e1 e2 => ?_, fun y q z r b hy hz2 hq hr e1 e2 => ?_⟩
        · have f1 : up2 (dR D2) 75 n (some a) y q = dR D2 y q := up2_ne (by omega)
          have f2 : up2 (dR D2) 75 n (some a) z r = dR D2 z r := up2_ne (by omega)
          exact h9.1 y q z r b hy hz2 hq hr (f1 ▸ e1) (f2 ▸ e2)
        · have e1 : up2 (dR D2) 75 n (some a) y q = some b := e1
          have e2 : up2 (dR D2) 75 n (some a) z r = some b := e2
          by_cases c1 : y = 75 ∧ q = n
          · by_cases c2 : z = 75 ∧ r = n
            · omega
            · rw [c1.1, c1.2, up2_eq] at e1
              cases e1
              rw [show up2 (dR D2) 75 n (some a) z r = dR D2 z r from if_neg c2] at e2
              exact absurd e2 (hnew z r hz2 hr)
          · rw [show up2 (dR D2) 75 n (some a) y q = dR D2 y q from if_neg c1] at e1
            by_cases c2 : z = 75 ∧ r = n
            · rw [c2.1, c2.2, up2_eq] at e2
              cases e2
              exact absurd e1 (hnew y q hy hq)
            · rw [show up2 (dR D2) 75 n (some a) z r = dR D2 z r from if_neg c2] at e2
              exact h9.2 y q z r b hy hz2 hq hr e1 e2
    refine onR_i rfl (tsP_i (ha6 _) (tsP_i (inB_n (by omega) (by omega)) (astP_i (fun b e => ?_) ?_)))
    · cases e
      exact ha6 _
    rw [ix_n (by omega), setR_m (show isFn 75 n = false from rfl)]
    exact aI_i rfl (k _ _ (m3.tr (fun q j g1 g2 => up2_ne (by omega))) (x2.g (by omega) (by omega)) r5)
  · obtain ⟨r3, m3⟩ := h.parsed x2' fb f3 z3
    have e1 : allP (tT (T, σ, κ)) (plP (tT (T, σ, κ))) = .inr f := e1
    rw [e1] at k
    rw [flt_e]
    exact aI_i rfl (k I3 D2 m3 (x2.g (by omega) (by omega)) r3)
end
