theorem sgS : ∀ lv, lv < 3 → ∀ n : Nat, n < 256 → ((ixS (sL (4 + lv)) (z32 (n : Int))).isSome = sgB lv (z32 (n : Int))) ∧ 0 < (sL (4 + lv)).length := by decide +kernel
theorem e_signsOf {d : Nat} {I : IM} {D : DY} {K : Option Nat → IM → Prop} {lv : Nat} (h : lv < 3) : CR d 42 [vI (z32 (lv : Int))] (mm I D) K ↔ K (some (2 * (4 + lv) + 1)) I := by
  refine CR_iff (s_Tape_signsOf _ ?_)
  rcases (by omega : lv = 0 ∨ lv = 1 ∨ lv = 2) with rfl | rfl | rfl
  · rw [brP_f (by decide)]
    exact qR_i ⟨rfl, rfl⟩
  · rw [brP_t (by decide), brP_f (by decide)]
    exact qR_i ⟨rfl, rfl⟩
  · rw [brP_t (by decide), brP_t (by decide)]
    exact qR_i ⟨rfl, rfl⟩
/-- what a C's part does -/
def H29 (vs : Tx) (n op lv : Nat) : Prop := ∀ (d : Nat) (I : IM) (D : DY) (K : IM → Prop) (T : Tx) (r : PS) (c : Tx), 2 * n + 9 ≤ d → SOK I → LTR D vs → XC I T r c →
  (∀ I2, PFx I I2 → XC I2 T (aft (sq r (xP vs n op lv))) (apC c (sq r (xP vs n op lv))) → K I2) → CV d 29 [vR (some 46), vI (z32 (lv : Int)), vI (z32 (op : Int))] (mm I D) K
def H30 (vs : Tx) (n op : Nat) : Prop := ∀ (d : Nat) (I : IM) (D : DY) (K : IM → Prop) (T : Tx) (r : PS) (c : Tx), 2 * n + 8 ≤ d → SOK I → LTR D vs → XC I T r c →
  (∀ I2, PFx I I2 → XC I2 T (aft (sq r (xP vs n op 3))) (apC c (sq r (xP vs n op 3))) → K I2) → CV d 30 [vR (some 46), vI (z32 (op : Int))] (mm I D) K
def lpQ (X : Tx → PR Tx) (lv g : Nat) (q : PR Tx) : PR Tx := match q with
  | .inl (c1, s1) => lpP X lv g c1 s1
  | .inr m => .inr m
theorem part_loop {vs : Tx} {n op lv : Nat} (hlv : lv < 3) (hop : op ≤ 6) (h29 : H29 vs n op (lv + 1)) {d : Nat} (hd : 2 * n + 9 ≤ d) {I0 : IM} {D : DY} {K : IM → Prop} {T : Tx} {c : Tx} (hS : SOK I0) (hL : LTR D vs) {ts : Nat} (hts : ts ≤ 160) :
    ∀ (g i : Nat), i + g = ts → ∀ (I : IM) (q1 : PR Tx) (w : PV), PFx I0 I → XC I T (aft q1) (apC c q1) →
    (∀ I2, PFx I0 I2 → XC I2 T (aft (lpQ (xP vs n op (lv + 1)) lv g q1)) (apC c (lpQ (xP vs n op (lv + 1)) lv g q1)) → K I2) →
    Wp GG (d + 1) 29 34 [vR (some 46), vI (z32 (lv : Int)), vI (z32 (op : Int)), vI (z32 (ts : Int)), vI (z32 (i : Int)), w] [] (mm I D) (qV (mm I0 D) K) := by
  intro g
  have hq0 : ∀ {I2 : IM}, K I2 → qV (mm I0 D) K none (mm I2 D) := fun h => ⟨_, rfl, rfl, h⟩
  induction g with
  | zero =>
    intro i hi I q1 w hf hX k
    refine s_Tape_part_34 _ _ _ _ _ ?_
    rw [brP_t (by rw [z32_le] <;> omega)]
    refine hq0 (k I hf ?_)
    rcases q1 with ⟨c1, s1⟩ | m <;> exact hX
  | succ g ih =>
    intro i hi I q1 w hf hX k
    obtain ⟨nb, hn, hpk, hp0⟩ := pk_b hX.1
    refine s_Tape_part_34 _ _ _ _ _ ?_
    rw [brP_f (by rw [z32_le] <;> omega), e_peek hX.1, e_signsOf hlv, onR_some, tsP_iff]
    refine ⟨by rw [kd_s (by omega)]; exact (strF (4 + lv) (by omega)).1, ?_⟩
    obtain ⟨hd3, rfl⟩ : ∃ d', d = d' + 3 := ⟨d - 3, by omega⟩
    obtain ⟨hsg, hsl⟩ := sgS lv hlv nb hn
    rw [hpk, (byt8 nb hn).2, e_indexOf (hS.fx hf) (by omega) hsl hn]
    have hstop : sgB lv (pkV (aft q1)) = false → lpQ (xP vs n op (lv + 1)) lv (g + 1) q1 = q1 := fun hs => by
      rcases q1 with ⟨c1, (_ | ⟨x, t⟩)⟩ | m
      · rfl
      · show (if sgB lv x = true then _ else _) = _
        have hs : sgB lv x = false := hs
        rw [hs]
        rfl
      · rfl
    cases hx : ixS (sL (4 + lv)) (z32 (nb : Int)) with
    | none =>
      rw [hx] at hsg
      rw [brP_f (by decide)]
      refine hq0 (k I hf ?_)
      rw [hstop (by rw [hpk]; exact hsg.symm)]
      exact hX
    | some q =>
      rw [hx] at hsg
      have hq := (ixS_some hx).1
      have h60 := (strF (4 + lv) (by omega)).2.2.2.2.2.1
      rw [brP_t (by show z32 0 ≤ z32 (q : Int); rw [z32_le] <;> omega)]
      have hsb : sgB lv (pkV (aft q1)) = true := by rw [hpk]; exact hsg.symm
      have hz : ∀ lv, lv < 3 → sgB lv 0 = false := by decide
      rcases q1 with ⟨c1, (_ | ⟨x, t⟩)⟩ | m
      · exact absurd hsb (by show ¬ sgB lv 0 = true; rw [hz lv hlv]; decide)
      · have hxp : x = z32 (nb : Int) := hpk
        rw [← hxp]
        have hsb : sgB lv x = true := hsb
        have hPn : PC (up2 I 46 5 (I 46 5 + 1)) T (.inl t) := PC.next (x := x) hX.1
        obtain ⟨⟨hc1, hc2, hc3⟩, hc4⟩ := hX.2.2 _ rfl
        have hc4 : (c ++ c1).length + (t.length + 1) ≤ 160 := hc4
        have hXn : XC (up2 I 46 5 (I 46 5 + 1)) T (.inl t) (c ++ c1) := hX.fr (PFr.up (by omega)) hPn (fun s hs => ⟨x :: t, rfl, by cases hs; simp⟩)
        have e1 : z32 (lv : Int) + 1 = z32 ((lv + 1 : Nat) : Int) := by
          show z32 _ + z32 1 = _
          rw [z32_add]
          rfl
        have e2 : z32 (i : Int) + 1 = z32 ((i + 1 : Nat) : Int) := by
          show z32 _ + z32 1 = _
          rw [z32_add]
          rfl
        rw [e1, e2]
        have hfn : PFx I0 (up2 I 46 5 (I 46 5 + 1)) := hf.tr (PFr.up (by omega)).x
        refine h29 _ _ _ _ T (.inl t) (c ++ c1) hd (hS.fx hfn) hL hXn (fun I2 hf2 hX2 => ?_)
        have elp : lpQ (xP vs n op (lv + 1)) lv (g + 1) (.inl (c1, x :: t)) = bnd (xP vs n op (lv + 1) t) (fun c2 s2 => lpP (xP vs n op (lv + 1)) lv g (c1 ++ (c2 ++ [-x])) s2) := by
          show (if sgB lv x = true then _ else _) = _
          rw [if_pos hsb]
        rw [elp] at k
        rw [sq_inl] at hX2
        cases hxp2 : xP vs n op (lv + 1) t with
        | inr m =>
          rw [hxp2] at hX2 k
          refine c_emit (c := []) (x := -x) hX2 (fun s hs => by cases hs) (fun I3 hf3 hX3 => ?_)
          refine ih (i + 1) (by omega) I3 (.inr m) _ (hfn.tr (hf2.tr hf3)) ?_ k
          exact ⟨hX3.1, hX3.2.1, fun s hs => by cases hs⟩
        | inl cs =>
          obtain ⟨c2, s2⟩ := cs
          rw [hxp2] at hX2 k
          have hlen := xP_len vs n op (lv + 1) t c2 s2 hxp2
          refine c_emit (c := c ++ c1 ++ c2) (x := -x) hX2 (fun s hs => ?_) (fun I3 hf3 hX3 => ?_)
          · cases hs
            simp only [List.length_append] at *
            omega
          · refine ih (i + 1) (by omega) I3 (.inl (c1 ++ (c2 ++ [-x]), s2)) _ (hfn.tr (hf2.tr hf3)) ?_ k
            have e4 : apC c (.inl (c1 ++ (c2 ++ [-x]), s2)) = c ++ c1 ++ c2 ++ [-x] := by
              show c ++ (c1 ++ (c2 ++ [-x])) = _
              simp only [List.append_assoc]
            rw [e4]
            exact hX3
      · exact absurd hsb (by show ¬ sgB lv 0 = true; rw [hz lv hlv]; decide)
theorem h29_step {vs : Tx} {n op lv : Nat} (hlv : lv < 3) (hop : op ≤ 6) (h29 : H29 vs n op (lv + 1)) : H29 vs (n + 1) op lv := by
  intro d I D K T r c hd hS hL hX k
  obtain ⟨d, rfl⟩ : ∃ d', d = d' + 1 := ⟨d - 1, by omega⟩
  refine s_Tape_part _ _ ?_
  rw [brP_t (by show z32 (lv : Int) ≤ z32 2; rw [z32_le] <;> omega)]
  have e1 : z32 (lv : Int) + 1 = z32 ((lv + 1 : Nat) : Int) := by
    show z32 _ + z32 1 = _
    rw [z32_add]
    rfl
  rw [e1]
  refine h29 _ _ _ _ T r c (by omega) hS hL hX (fun I2 hf hX2 => ?_)
  have ex : sq r (xP vs (n + 1) op lv) = lpQ (xP vs n op (lv + 1)) lv (if lv = 0 then 1 else 160) (sq r (xP vs n op (lv + 1))) := by
    cases r with
    | inr m => rfl
    | inl s =>
      show (if 3 ≤ lv then _ else _) = _
      rw [if_neg (by omega)]
      show _ = lpQ _ _ _ (xP vs n op (lv + 1) s)
      cases xP vs n op (lv + 1) s <;> rfl
  rw [ex] at k
  refine brP_i (fun z => ?_) (fun z => ?_)
  · have hl0 : lv ≠ 0 := fun e => z (by rw [e]; rfl)
    rw [if_neg hl0] at k
    exact part_loop (ts := 160) hlv hop h29 (by omega) hS hL (Nat.le_refl _) 160 0 rfl I2 _ _ hf hX2 k
  · have z := Classical.not_not.mp z
    have hl0 : lv = 0 := by
      have z : z32 (lv : Int) = z32 0 := z
      rw [z32_inj] at z <;> omega
    rw [if_pos hl0] at k
    exact part_loop (ts := 1) hlv hop h29 (by omega) hS hL (by omega) 1 0 rfl I2 _ _ hf hX2 k
theorem h29_3 {vs : Tx} {n op : Nat} (h30 : H30 vs n op) : H29 vs n op 3 := by
  intro d I D K T r c hd hS hL hX k
  obtain ⟨d, rfl⟩ : ∃ d', d = d' + 1 := ⟨d - 1, by omega⟩
  refine s_Tape_part _ _ ?_
  rw [brP_f (by show ¬ z32 3 ≤ z32 2; rw [z32_le] <;> omega)]
  exact h30 _ _ _ _ T r c (by omega) hS hL hX (fun I2 hf hX2 => ⟨_, rfl, rfl, k I2 hf hX2⟩)
theorem h30_step {vs : Tx} {n op : Nat} (hop : op ≤ 6) (hb : op < 6 → H29 vs n (op + 1) 0 ∧ H30 vs n (op + 1)) : H30 vs (n + 1) op := by
  intro d I D K T r c hd hS hL hX k
  obtain ⟨d, rfl⟩ : ∃ d', d = d' + 1 := ⟨d - 1, by omega⟩
  have hP := hX.1
  obtain ⟨nb, hn, hpk, hp0⟩ := pk_b hX.1
  have e6 : z32 (op : Int) + 1 = z32 ((op + 1 : Nat) : Int) := by
    show z32 _ + z32 1 = _
    rw [z32_add]
    rfl
  have ex : ∀ s, xP vs (n + 1) op 3 s = opP0 vs (xP vs n (op + 1) 0) (xP vs n (op + 1) 3) op s := fun s => by
    show (if 3 ≤ 3 then _ else _) = _
    rw [if_pos (by omega)]
  refine s_Tape_operand _ ?_
  rw [e_peek hP, e_isFig]
  have hlt : ((z32 (op : Int)) < 6) ↔ op < 6 := by
    show _ < z32 6 ↔ _
    rw [z32_lt] <;> omega
  refine brP_i (fun z => ?_) (fun z => ?_)
  · rw [b32_0] at z
    have hfail : (∀ s, r = .inl s → xP vs (n + 1) op 3 s = .inr s.length) → CV d 24 [vR (some 46), vI (I 46 5)] (mm I D) (fun I3 => qV (mm I D) K none (mm I3 D)) := fun hq => by
      refine c_fail hP (m := lnR r) (fun s hs => ?_) (fun I2 hf hP2 => qV_i (k I2 hf.x ?_))
      · subst hs
        exact ⟨hP.2.2.1, hP.2.1.1⟩
      · rw [flR_ln (X := xP vs (n + 1) op 3) hq, flR_inr]
        rw [flR_inr] at hP2
        exact hX.fl hf hP2
    have h6 : ∀ (c1 : Int32) (t : Tx), (c1 = 45 ∨ c1 = 40) → ¬ op < 6 → r = .inl (c1 :: t) → CV d 24 [vR (some 46), vI (I 46 5)] (mm I D) (fun I3 => qV (mm I D) K none (mm I3 D)) := fun c1 t hc h6 hr => hfail (fun s hs => by
      subst hr
      cases hs
      rw [ex]
      unfold opP0
      rcases hc with rfl | rfl
      · have hd1 : digB 45 = false := by decide
        simp only [hd1, Bool.false_eq_true, if_false, if_pos, if_pos (show 6 ≤ op by omega)]
        rfl
      · have hd1 : digB 40 = false := by decide
        have hne : ¬ (40 : Int32) = 45 := by decide
        simp only [hd1, Bool.false_eq_true, if_false, hne, if_pos, if_pos (show 6 ≤ op by omega)]
        rfl)
    refine brP_i (fun z1 => ?_) (fun z1 => brP_i (fun z2 => ?_) (fun z2 => ?_))
    · obtain ⟨t, rfl⟩ := pk_cons z1 (by decide)
      refine brP_i (fun z3 => ?_) (fun z3 => h6 45 t (Or.inl rfl) (fun q => z3 (hlt.mpr q)) rfl)
      rw [brP_f (by rw [z1]; decide), e6]
      obtain ⟨-, hb30⟩ := hb (hlt.mp z3)
      have hXn : XC (up2 I 46 5 (I 46 5 + 1)) T (.inl t) c := hX.fr (PFr.up (by omega)) hP.next (fun s hs => ⟨45 :: t, rfl, by cases hs; simp⟩)
      have hfn : PFx I (up2 I 46 5 (I 46 5 + 1)) := (PFr.up (by omega)).x
      refine hb30 _ _ _ _ T (.inl t) c (by omega) (hS.fx hfn) hL hXn (fun I2 hf2 hX2 => ?_)
      have e0 : xP vs (n + 1) op 3 (45 :: t) = bnd (xP vs n (op + 1) 3 t) (fun c s => .inl (c ++ [-1000], s)) := by
        rw [ex]
        unfold opP0
        have hd1 : digB 45 = false := by decide
        simp only [hd1, Bool.false_eq_true, if_false, if_pos, if_neg (show ¬ 6 ≤ op by have := hlt.mp z3; omega)]
      rw [sq_inl, e0] at k
      rw [sq_inl] at hX2
      have hc4 := (hX.2.2 _ rfl).2
      rw [List.length_cons] at hc4
      cases hxp2 : xP vs n (op + 1) 3 t with
      | inr m =>
        rw [hxp2] at hX2 k
        refine c_emit (c := []) (x := -1000) hX2 (fun s hs => by cases hs) (fun I3 hf3 hX3 => qV_i (k I3 (hfn.tr (hf2.tr hf3)) ?_))
        exact ⟨hX3.1, hX3.2.1, fun s hs => by cases hs⟩
      | inl cs =>
        obtain ⟨c2, s2⟩ := cs
        rw [hxp2] at hX2 k
        have hlen := xP_len vs n (op + 1) 3 t c2 s2 hxp2
        refine c_emit (c := c ++ c2) (x := -1000) hX2 (fun s hs => ?_) (fun I3 hf3 hX3 => qV_i (k I3 (hfn.tr (hf2.tr hf3)) ?_))
        · cases hs
          simp only [List.length_append] at *
          omega
        · show XC I3 T (.inl s2) (c ++ (c2 ++ [-1000]))
          rw [← List.append_assoc]
          exact hX3
    · obtain ⟨t, rfl⟩ := pk_cons z2 (by decide)
      refine brP_i (fun z3 => ?_) (fun z3 => h6 40 t (Or.inr rfl) (fun q => z3 (hlt.mpr q)) rfl)
      rw [brP_t z1, e6]
      obtain ⟨hb29, -⟩ := hb (hlt.mp z3)
      have hXn : XC (up2 I 46 5 (I 46 5 + 1)) T (.inl t) c := hX.fr (PFr.up (by omega)) hP.next (fun s hs => ⟨40 :: t, rfl, by cases hs; simp⟩)
      have hfn : PFx I (up2 I 46 5 (I 46 5 + 1)) := (PFr.up (by omega)).x
      refine hb29 _ _ _ _ T (.inl t) c (by omega) (hS.fx hfn) hL hXn (fun I2 hf2 hX2 => ?_)
      have e0 : xP vs (n + 1) op 3 (40 :: t) = bnd (xP vs n (op + 1) 0 t) (fun c s => bnd (tkP 41 s) (fun _ s => .inl (c, s))) := by
        rw [ex]
        unfold opP0
        have hd1 : digB 40 = false := by decide
        have hne : ¬ (40 : Int32) = 45 := by decide
        simp only [hd1, Bool.false_eq_true, if_false, hne, if_pos, if_neg (show ¬ 6 ≤ op by have := hlt.mp z3; omega)]
      rw [sq_inl, e0] at k
      rw [sq_inl] at hX2
      obtain ⟨d2, rfl⟩ : ∃ d', d = d' + 1 := ⟨d - 1, by omega⟩
      refine c_take (d := d2) hX2.1 (by decide) (fun I3 hf3 hP3 => qV_i (k I3 (hfn.tr (hf2.tr hf3.x)) ?_))
      cases hxp2 : xP vs n (op + 1) 0 t with
      | inr m =>
        rw [hxp2] at hX2 hP3
        exact hX2.fl hf3 hP3
      | inl cs =>
        obtain ⟨c2, s2⟩ := cs
        rw [hxp2] at hX2 hP3
        have hP3 : PC I3 T (aft (tkP 41 s2)) := hP3
        show XC I3 T (aft (bnd (tkP 41 s2) _)) (apC c (bnd (tkP 41 s2) _))
        cases ht : tkP 41 s2 with
        | inr m =>
          rw [ht] at hP3
          exact hX2.fl hf3 hP3
        | inl us =>
          obtain ⟨u, s3⟩ := us
          rw [ht] at hP3
          exact hX2.fr hf3 hP3 (fun s hs => ⟨s2, rfl, by cases hs; rw [tkP_len ht]; simp⟩)
    · refine c_letter (d := d - 4) hS hL hX (fun I2 hf hX2 => qV_i (k I2 hf ?_)) |> fun h => (by rw [show d - 4 + 4 = d by omega] at h; exact h)
      have e0 : sq r (xP vs (n + 1) op 3) = sq r (ltP vs) := by
        rcases r with (_ | ⟨x, t⟩) | m
        · rfl
        · rw [sq_inl, sq_inl, ex]
          unfold opP0
          have z : ¬ digB x = true := z
          have z1 : ¬ x = 45 := z1
          have z2 : ¬ x = 40 := z2
          simp only [if_neg z, if_neg z1, if_neg z2]
        · rfl
      rw [e0]
      exact hX2
  · rw [b32_0] at z
    have z := Classical.not_not.mp z
    obtain ⟨d2, rfl⟩ : ∃ d', d = d' + 1 := ⟨d - 1, by omega⟩
    refine c_number (d := d2) (most := 9999) (by omega) (by omega) hP (fun x I2 hf hP2 hv => ?_)
    rcases r with (_ | ⟨x0, t⟩) | m
    · exact absurd z (by show ¬ digB 0 = true; decide)
    · have z : digB x0 = true := z
      have e0 : xP vs (n + 1) op 3 (x0 :: t) = bnd (nbP 9999 (x0 :: t)) (fun v s => .inl ([z32 v], s)) := by
        rw [ex]
        unfold opP0
        simp only [if_pos z]
      rw [sq_inl, e0] at k
      rw [sq_inl] at hP2 hv
      have hc4 := (hX.2.2 _ rfl).2
      cases hxp2 : nbP 9999 (x0 :: t) with
      | inr m =>
        rw [hxp2] at hP2 k
        refine c_emit (c := []) (x := x) (hX.fl hf hP2) (fun s hs => by cases hs) (fun I3 hf3 hX3 => qV_i (k I3 (hf.x.tr hf3) ?_))
        exact ⟨hX3.1, hX3.2.1, fun s hs => by cases hs⟩
      | inl vs2 =>
        obtain ⟨v, s2⟩ := vs2
        rw [hxp2] at hP2 k
        obtain rfl := hv v s2 hxp2
        have hlen := nbP_len hxp2
        refine c_emit (c := c) (x := z32 v) (hX.fr hf hP2 (fun s hs => ⟨x0 :: t, rfl, by cases hs; omega⟩)) (fun s hs => by cases hs; omega) (fun I3 hf3 hX3 => qV_i (k I3 (hf.x.tr hf3) hX3))
    · exact absurd z (by show ¬ digB 0 = true; decide)
/-- a C's parts, all of them -/
theorem h_all (vs : Tx) : ∀ (n : Nat), (∀ op, op ≤ 6 → xN op 3 ≤ n → H30 vs n op) ∧ ∀ op lv, op ≤ 6 → lv ≤ 3 → xN op lv ≤ n → H29 vs n op lv := by
  intro n
  induction n with
  | zero => exact ⟨fun op h1 h2 => by unfold xN at h2; omega, fun op lv h1 h2 h3 => by unfold xN at h3; omega⟩
  | succ n ih =>
    have h30 : ∀ op, op ≤ 6 → xN op 3 ≤ n + 1 → H30 vs (n + 1) op := fun op h1 h2 => h30_step h1 (fun h6 => ⟨ih.2 (op + 1) 0 (by omega) (by omega) (by unfold xN at *; omega), ih.1 (op + 1) (by omega) (by unfold xN at *; omega)⟩)
    refine ⟨h30, fun op lv h1 h2 h3 => ?_⟩
    rcases Nat.lt_or_ge lv 3 with q | q
    · exact h29_step q h1 (ih.2 op (lv + 1) h1 (by omega) (by unfold xN at *; omega))
    · obtain rfl : lv = 3 := by omega
      exact h29_3 (h30 op h1 h3)
