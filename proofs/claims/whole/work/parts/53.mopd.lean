/-! The model's operands; all of a formula. -/
theorem m_flt {d : Nat} {I : IM} {D : DY} {K : IM → Prop} {T : Tx} {m : Nat} (h : MP I T (.inr m)) (k : K I) : CV (d + 1) 182 [vR (some 106)] (mm I D) K := by
  have hfl : ¬ I 106 4 < 0 := fun c => by
    obtain ⟨s, e⟩ := h.fl.mp c
    cases e
  exact s_M_readOperand ((brP_f hfl).mpr (qV_i k))
theorem opP0_w {vs : Tx} {X0 X3 : Tx → PR Tx} {op : Nat} {x : Int32} {t : Tx} (h0 : ¬ digB x = true) (h1 : ¬ x = 45) (h2 : ¬ x = 40) : opP0 vs X0 X3 op (x :: t) = ltP vs (x :: t) := by
  unfold opP0
  simp only [if_neg h0, if_neg h1, if_neg h2]
theorem xP_3 (vs : Tx) (n op : Nat) (s : Tx) : xP vs (n + 1) op 3 s = opP0 vs (xP vs n (op + 1) 0) (xP vs n (op + 1) 3) op s := by
  show (if 3 ≤ 3 then _ else _) = _
  rw [if_pos (by omega)]
theorem m_opens {d : Nat} {I : IM} {D : DY} {K : IM → Prop} {T t : Tx} {x : Int32} {sl P op : Nat} {e : Tx} (hX : MZ I T (.inl (x :: t)) sl e P) (hop : op ≤ 6) (ho : I 106 10 = z32 (op : Int))
    (k1 : op < 6 → ∀ I2, GFr sl I I2 → MZ I2 T (.inl (x :: t)) sl e P → I2 106 10 = z32 ((op + 1 : Nat) : Int) → K I2)
    (k2 : 6 ≤ op → ∀ I2, GFr sl I I2 → MZ I2 T (.inr (t.length + 1)) sl e P → (∃ a : Nat, a + 1 ≤ 160 ∧ I2 106 3 = z32 (a : Int)) → K I2) : CV (d + 1) 186 [vR (some 106)] (mm I D) K := by
  obtain ⟨g1, g2, g3⟩ := hX.1.in
  have hl := g1.1
  rw [List.length_cons] at hl g2
  have h160 := hX.1.1.2.1
  have up10 : ∀ {J : IM} {r : PS} {v : Int32}, MZ J T r sl e P → MZ (up2 J 106 10 v) T r sl e P := fun {J r v} h => by
    obtain ⟨h1, ⟨h3, h4, h5⟩, ⟨a, n, a1, a2, a3, a4⟩, h6⟩ := h
    refine ⟨h1.gf (sl := sl) (GFr.up (by omega)) ⟨n, by omega, (up2_ne (by omega)).trans a3⟩ (up2_nj (by omega)) (up2_nj (by omega)), ⟨(up2_nj (by omega)).trans h3, h4, h5⟩, ⟨a, n, a1, (up2_nj (by omega)).trans a2, (up2_ne (by omega)).trans a3, a4⟩, fun s hs => ?_⟩
    obtain ⟨f1, f2, f3⟩ := h6 s hs
    exact ⟨(up2_ne (by omega)).trans f1, f2, fun k hk => (up2_ne (by omega)).trans (f3 k hk)⟩
  refine s_M_opens (brP_i (fun q => qV_i ?_) (fun q => ?_))
  · have q : ¬ I 106 10 = z32 6 := q
    rw [ho, z32_inj (by omega) (by omega) (by omega) (by omega)] at q
    exact k1 (by omega) _ (GFr.up (by omega)) (up10 hX) (by rw [up2_eq, ho, z32_s])
  · have q : I 106 10 = z32 6 := Classical.not_not.mp q
    rw [ho, z32_inj (by omega) (by omega) (by omega) (by omega)] at q
    rw [g2]
    refine c_wrong (m := t.length + 1) hX.1 rfl hl (fun I2 f M e => qV_i ?_)
    refine k2 (by omega) _ (f.g.tr (GFr.up (by omega))) (up10 (hX.nf f M (by rw [e]; exact Int32.le_refl _) (fun s hs => by cases hs))) ⟨T.length - (t.length + 1), by omega, ?_⟩
    rw [up2_nj (by omega), e, g2]
theorem MZ.down {I : IM} {T : Tx} {r : PS} {sl P : Nat} {e : Tx} {v : Int32} (h : MZ I T r sl e P) : MZ (up2 I 106 10 v) T r sl e P := by
  obtain ⟨h1, ⟨h3, h4, h5⟩, ⟨a, n, a1, a2, a3, a4⟩, h6⟩ := h
  refine ⟨h1.gf (sl := sl) (GFr.up (by omega)) ⟨n, by omega, (up2_ne (by omega)).trans a3⟩ (up2_nj (by omega)) (up2_nj (by omega)), ⟨(up2_nj (by omega)).trans h3, h4, h5⟩, ⟨a, n, a1, (up2_nj (by omega)).trans a2, (up2_ne (by omega)).trans a3, a4⟩, fun s hs => ?_⟩
  obtain ⟨f1, f2, f3⟩ := h6 s hs
  exact ⟨(up2_ne (by omega)).trans f1, f2, fun k hk => (up2_ne (by omega)).trans (f3 k hk)⟩
/-- '(' C ')' at an open count -/
def bkP (vs : Tx) (n op : Nat) (s : Tx) : PR Tx := match s with
  | x :: t => if x = 40 then (if 6 ≤ op then .inr (t.length + 1) else bnd (xP vs n (op + 1) 0 t) (fun c s => bnd (tkP 41 s) (fun _ s => .inl (c, s)))) else .inr (t.length + 1)
  | [] => .inr 0
theorem bkP_40 {vs : Tx} {n op : Nat} {x : Int32} {t : Tx} (h : x = 40) : bkP vs n op (x :: t) = if 6 ≤ op then .inr (t.length + 1) else bnd (xP vs n (op + 1) 0 t) (fun c s => bnd (tkP 41 s) (fun _ s => .inl (c, s))) := by
  show (if x = 40 then _ else _) = _
  rw [if_pos h]
theorem opP0_40 {vs : Tx} {n op : Nat} {x : Int32} {t : Tx} (h0 : ¬ digB x = true) (h1 : ¬ x = 45) (h2 : x = 40) : opP0 vs (xP vs n (op + 1) 0) (xP vs n (op + 1) 3) op (x :: t) = bkP vs n op (x :: t) := by
  rw [bkP_40 h2]
  unfold opP0
  simp only [if_neg h0, if_neg h1, if_pos h2]
theorem m_brack {vs : Tx} {n op d : Nat} {I : IM} {D : DY} {K : IM → Prop} {T : Tx} {r : PS} {sl P : Nat} {e : Tx} (hd : 2 * n + 10 ≤ d) (hop : op ≤ 6) (hb : op < 6 → HM vs n (op + 1) 0) (hL : LTm I vs) (ho : ∀ s, r = .inl s → I 106 10 = z32 (op : Int)) (hX : MZ I T r sl e P) (hP : P ≤ 487)
    (k : ∀ I2, GFr sl I I2 → MZ I2 T (aft (sq r (bkP vs n op))) sl (apE e (sq r (bkP vs n op))) P → (∀ c s, sq r (bkP vs n op) = .inl (c, s) → I2 106 10 = z32 (op : Int)) → K I2) : CV d 187 [vR (some 106)] (mm I D) K := by
  obtain ⟨d, rfl⟩ : ∃ d', d = d' + 1 := ⟨d - 1, by omega⟩
  refine s_M_readBracketed (brP_i (fun q => ?_) (fun q => qV_i ?_))
  · obtain ⟨s, rfl⟩ := hX.1.fl.mp q
    have oo := ho s rfl
    obtain ⟨g1, g2, g3⟩ := hX.1.in
    have hl := g1.1
    have h160 := hX.1.1.2.1
    rw [e_here hX.1]
    have fail : (∀ t, s ≠ 40 :: t) → bkP vs n op s = .inr s.length := fun c => by
      cases s with
      | nil => rfl
      | cons x t =>
        show (if x = 40 then _ else _) = _
        rw [if_neg (fun q => c t (by rw [q]))]
        rfl
    cases s with
    | nil =>
      rw [sq_inl, fail (fun t c => by cases c)] at k
      exact (brP_f (by decide)).mpr (c_wrong (m := 0) hX.1 g2 hl (fun I2 f M e => qV_i (k I2 f.g (hX.nf f M (by rw [e]; exact Int32.le_refl _) (fun s hs => by cases hs)).in (fun c s q => by cases q))))
    | cons x t =>
      refine brP_i (fun c => ?_) (fun c => ?_)
      · have c : x = 40 := c
        subst c
        obtain ⟨d, rfl⟩ : ∃ d', d = d' + 1 := ⟨d - 1, by omega⟩
        have e0 : bkP vs n op (40 :: t) = if 6 ≤ op then .inr (t.length + 1) else bnd (xP vs n (op + 1) 0 t) (fun c s => bnd (tkP 41 s) (fun _ s => .inl (c, s))) := bkP_40 rfl
        rw [sq_inl, e0] at k
        refine m_opens hX hop oo (fun h6 I2 f2 X2 o2 => ?_) (fun h6 I2 f2 X2 hpl => ?_)
        · refine (brP_t (X2.1.fl.mpr ⟨_, rfl⟩)).mpr ?_
          obtain ⟨X3, p3⟩ := X2.next
          have f3 : GFr sl I (up2 I2 106 3 (I2 106 3 + 1)) := f2.tr (GFr.up (by omega))
          refine hb h6 _ _ _ _ T (.inl t) sl e (P - 3) (by omega) (hL.gf f3) (fun s hs => (up2_nj (by omega)).trans o2) X3 (by omega) (fun I4 f4 X4 o4 => ?_)
          rw [if_neg (by omega)] at k
          rw [sq_inl] at X4 o4
          refine m_take X4.1 (by decide) (fun I5 f5 M5 p5 => qV_i ?_)
          refine k _ (f3.tr (f4.tr (f5.g.tr (GFr.up (by omega))))) ?_ ?_
          · refine MZ.le (P := P - 2) ?_ (by omega) (by omega)
            cases hc : xP vs n (op + 1) 0 t with
            | inr m =>
              rw [hc] at M5 X4
              refine (X4.nf f5 M5 p5 (fun s hs => by cases hs)).down.le (by omega) (by omega) |>.in
            | inl cs =>
              obtain ⟨c1, s1⟩ := cs
              rw [hc] at M5 X4
              have M5 : MP I5 T (aft (tkP 41 s1)) := M5
              show MZ _ T (aft (bnd (tkP 41 s1) (fun _ s => (.inl (c1, s) : PR Tx)))) sl (apE e (bnd (tkP 41 s1) (fun _ s => (.inl (c1, s) : PR Tx)))) (P - 2)
              have X5 := (X4.nf f5 M5 p5 (fun s hs => ⟨s1, rfl⟩)).down (v := I5 106 10 - 1) |>.le (P2 := P - 2) (by omega) (by omega)
              cases ht : tkP 41 s1 with
              | inr m =>
                rw [ht] at X5
                exact X5.in
              | inl us =>
                rw [ht] at X5
                exact X5
          · intro c s q
            cases hc : xP vs n (op + 1) 0 t with
            | inr m => rw [hc] at q; cases q
            | inl cs =>
              obtain ⟨c1, s1⟩ := cs
              rw [up2_eq, f5 106 10 (by omega), o4 _ _ hc]
              show z32 _ - z32 1 = _
              rw [z32_sub]
              congr 1
              omega
        · have hfl : ¬ I2 106 4 < 0 := fun c => by
            obtain ⟨s, e⟩ := X2.1.fl.mp c
            cases e
          rw [if_pos h6] at k
          exact (brP_f hfl).mpr (qV_i (k I2 f2 X2.in (fun c s q => by cases q)))
      · have c : ¬ x = 40 := c
        rw [sq_inl, fail (fun u q => by cases q; exact c rfl)] at k
        exact c_wrong (m := t.length + 1) hX.1 g2 hl (fun I2 f M e => qV_i (k I2 f.g (hX.nf f M (by rw [e]; exact Int32.le_refl _) (fun s hs => by cases hs)).in (fun c s q => by cases q)))
  · rcases r with s | m
    · exact absurd (hX.1.fl.mpr ⟨s, rfl⟩) q
    · exact k I GFr.rf hX.in (fun c s q => by cases q)
theorem hm_3 {vs : Tx} {n op : Nat} (hop : op ≤ 6) (hb : op < 6 → HM vs n (op + 1) 0 ∧ HM vs n (op + 1) 3) : HM vs (n + 1) op 3 := by
  intro d I D K T r sl e P hd hL ho hX hP k
  obtain ⟨d, rfl⟩ : ∃ d', d = d' + 1 := ⟨d - 1, by omega⟩
  rcases r with s | m
  rotate_left
  · exact m_flt hX.1 (k I GFr.rf (hX.in.le (by omega) (by omega)) (fun c s q => by cases q))
  have oo := ho s rfl
  obtain ⟨g1, g2, g3⟩ := hX.1.in
  have hl := g1.1
  have h160 := hX.1.1.2.1
  rw [sq_inl, xP_3] at k
  -- what fails at the place
  have fail : opP0 vs (xP vs n (op + 1) 0) (xP vs n (op + 1) 3) op s = .inr s.length → CV d 175 [vR (some 106), vI (I 106 3)] (mm I D) (fun I4 => qV (mm I D) K none (mm I4 D)) := fun q => by
    rw [q] at k
    exact c_wrong (m := s.length) hX.1 g2 hl (fun I2 f M e => qV_i (k I2 f.g ((hX.nf f M (by rw [e]; exact Int32.le_refl _) (fun s hs => by cases hs)).in.le (by omega) (by omega)) (fun c s q => by cases q)))
  refine s_M_readOperand ((brP_t (hX.1.fl.mpr ⟨s, rfl⟩)).mpr ?_)
  rw [e_here hX.1, e_in, dig_b]
  have h245 : 2 * n + 11 ≤ d + 1 := by omega
  cases s with
  | nil =>
    refine (brP_t (by decide)).mpr ?_
    rw [e_in, low_b]
    exact (brP_t (by decide)).mpr ((brP_t (by decide)).mpr ((brP_t (by decide)).mpr (fail rfl)))
  | cons x t =>
    rw [List.length_cons] at hl g2
    refine br0 (fun hdg => ?_) (fun hdg => ?_)
    · -- a number
      have hdg : digB x = true := hdg
      obtain ⟨d2, rfl⟩ : ∃ d', d = d' + 1 := ⟨d - 1, by omega⟩
      have e0 : opP0 vs (xP vs n (op + 1) 0) (xP vs n (op + 1) 3) op (x :: t) = bnd (nbP 9999 (x :: t)) (fun v s => .inl ([z32 v], s)) := by
        unfold opP0
        simp only [if_pos hdg]
      obtain ⟨v, s2, hv, v0, v1⟩ := nbP_ok (t := t) hdg
      have hlen := nbP_len hv
      rw [List.length_cons] at hlen
      rw [e0, hv] at k
      refine m_number (most := 9999) (by omega) (by omega) hX.1 (fun y I2 f2 M2 hy => ?_)
      rw [sq_inl, hv] at M2 hy
      obtain rfl := hy v s2 rfl
      have M2 : MP I2 T (.inl s2) := M2
      obtain ⟨j1, j2, j3⟩ := M2.in
      have hj := j1.1
      have X2 : MZ I2 T (.inl s2) sl e (P - 3) := by
        obtain ⟨h1, ⟨h3, h4, h5⟩, ⟨a, nn, a1, a2, a3, a4⟩, h6⟩ := hX
        rw [a2, z32_inj (by omega) (by omega) (by omega) (by omega)] at g2
        refine ⟨M2, ⟨(f2 _ _ (by omega)).trans h3, h4, by omega⟩, ⟨_, nn, by omega, j2, (f2 _ _ (by omega)).trans a3, by omega⟩, fun s hs => ?_⟩
        obtain ⟨b1, b2, b3⟩ := h6 _ rfl
        exact ⟨(f2 _ _ (by omega)).trans b1, b2, fun k hk => (f2 _ _ (by omega)).trans (b3 k hk)⟩
      have hP3 : 3 ≤ P := hX.next.2
      refine m_puts X2 (by omega) (fun I3 f3 X3 o3 => m_puts X3 (by omega) (fun I4 f4 X4 o4 => qV_i (k I4 (f2.g.tr (f3.tr f4)) ?_ (fun c s q => by rw [o4, o3, f2 106 10 (by omega)]; exact oo))))
      have e1 : apE e (.inl ([z32 v], s2)) = e ++ [1] ++ [z32 v] := by
        show e ++ encV [z32 v] = _
        rw [encV_1, enc_lit v0 v1, List.append_assoc]
        rfl
      show MZ I4 T (.inl s2) sl (apE e (.inl ([z32 v], s2))) (P + 1)
      rw [e1]
      exact X4.le (by omega) (by omega)
    · have hdg : ¬ digB x = true := hdg
      rw [e_in, low_b]
      refine br0 (fun hlw => ?_) (fun hlw => ?_)
      · -- a letter
        have hlw : lowB x = true := hlw
        have n45 : ¬ x = 45 := fun q => by rw [q] at hlw; exact absurd hlw (by decide)
        have n40 : ¬ x = 40 := fun q => by rw [q] at hlw; exact absurd hlw (by decide)
        have e0 := opP0_w (vs := vs) (X0 := xP vs n (op + 1) 0) (X3 := xP vs n (op + 1) 3) (op := op) (t := t) hdg n45 n40
        have eL : ltP vs (x :: t) = match ixS vs x with
          | some k => ltE k t
          | none => .inr (t.length + 1) := rfl
        have alone : (∀ k, ltE k t = .inl ([z32 (10000 + (k : Int))], t)) → CI d 185 [vR (some 106), vI (hrV (x :: t))] (mm I D) (fun x9 I9 => brP ((0 : Int32) ≤ x9)
            (CV d 184 [vR (some 106), vI 2] (mm I9 D) (fun I10 => CI d 185 [vR (some 106), vI (hrV (x :: t))] (mm I10 D) (fun x11 I11 => CV d 184 [vR (some 106), vI x11] (mm I11 D) (fun I12 => qV (mm I D) K none (mm (up2 I12 106 3 ((I12 106 3) + 1)) D)))))
            (CV d 175 [vR (some 106), vI (I9 106 3)] (mm I9 D) (fun I13 => qV (mm I D) K none (mm I13 D)))) := fun hE => by
          rw [e_var hL]
          cases hi : ixS vs x with
          | none =>
            rw [show ixS vs (hrV (x :: t)) = none from hi]
            exact (brP_f (by decide)).mpr (fail (by rw [e0, eL, hi]; rfl))
          | some q =>
            have hq : q < 5 := by
              have := (ixS_some hi).1
              have := hL.n5
              omega
            rw [show ixS vs (hrV (x :: t)) = some q from hi]
            refine (brP_t (by show z32 0 ≤ z32 (q : Int); rw [z32_le] <;> omega)).mpr ?_
            refine m_puts hX (by omega) (fun I2 f2 X2 o2 => ?_)
            rw [e_var (hL.gf f2), show ixS vs (hrV (x :: t)) = some q from hi]
            refine m_puts X2 (by omega) (fun I3 f3 X3 o3 => qV_i ?_)
            rw [e0, eL, hi] at k
            have k : ∀ I2, GFr sl I I2 → MZ I2 T (aft (ltE q t)) sl (apE e (ltE q t)) (P + 1) → (∀ c s, ltE q t = .inl (c, s) → I2 106 10 = z32 (op : Int)) → K I2 := k
            rw [hE q] at k
            refine k _ (f2.tr (f3.tr (GFr.up (by omega)))) ?_ (fun c s _ => by rw [up2_nj (by omega), o3, o2]; exact oo)
            have e1 : apE e (.inl ([z32 (10000 + (q : Int))], t)) = e ++ [2] ++ [z32 (q : Int)] := by
              show e ++ encV [z32 (10000 + (q : Int))] = _
              rw [encV_1, enc_var hq, List.append_assoc]
              rfl
            show MZ _ T (.inl t) sl (apE e (.inl ([z32 (10000 + (q : Int))], t))) (P + 1)
            rw [e1]
            exact X3.next.1.le (by omega) (by omega)
        rw [hX.1.1.1, g2, z32_s]
        cases t with
        | nil =>
          have h0 : ([] : Tx).length = 0 := rfl
          refine (brP_t (by rw [z32_le] <;> omega)).mpr ?_
          exact alone (fun k => rfl)
        | cons y u =>
          rw [List.length_cons] at hl g2 ⊢
          refine (brP_f (by rw [z32_le] <;> omega)).mpr (tsP_i (inB_n (by omega) (by omega)) ?_)
          rw [ix_n (by omega), hX.1.1.2.2.1 _ (by omega), show T.length - (u.length + 1 + 1) + 1 = T.length - (u.length + 1) by omega, g1.tail.head, e_in, low_b]
          refine br1 (fun hy => ?_) (fun hy => ?_)
          · refine fail ?_
            rw [e0, eL]
            cases hi : ixS vs x with
            | none => rfl
            | some q =>
              show (if lowB y = true then _ else _) = _
              rw [if_pos hy]
              rfl
          · refine alone (fun k => ?_)
            show (if lowB y = true then _ else _) = _
            rw [if_neg hy]
      · have hlw : ¬ lowB x = true := hlw
        refine brP_i (fun n45 => ?_) (fun c => ?_)
        · have n45 : ¬ x = 45 := n45
          refine brP_i (fun n40 => ?_) (fun c => ?_)
          · have n40 : ¬ x = 40 := n40
            refine fail ?_
            rw [opP0_w hdg n45 n40]
            show (match ixS vs x with
              | some k => ltE k t
              | none => .inr (t.length + 1)) = _
            cases hi : ixS vs x with
            | none => rfl
            | some q => exact absurd (hL.low _ (ixS_some hi).2) hlw
          · have c : x = 40 := Classical.not_not.mp c
            subst c
            have e0 : opP0 vs (xP vs n (op + 1) 0) (xP vs n (op + 1) 3) op (40 :: t) = bkP vs n op (40 :: t) := opP0_40 hdg n45 rfl
            rw [e0] at k
            refine m_brack (vs := vs) (n := n) (op := op) (by omega) hop (fun q => (hb q).1) hL (fun s hs => oo) hX (by omega) (fun I2 f2 X2 o2 => qV_i (k I2 f2 (X2.le (by omega) (by omega)) o2))
        · have c : x = 45 := Classical.not_not.mp c
          subst c
          have e0 : opP0 vs (xP vs n (op + 1) 0) (xP vs n (op + 1) 3) op (45 :: t) = if 6 ≤ op then .inr (t.length + 1) else bnd (xP vs n (op + 1) 3 t) (fun c s => .inl (c ++ [-1000], s)) := by
            unfold opP0
            show (if digB 45 = true then _ else _) = _
            rw [if_neg (by decide), if_pos rfl]
          rw [e0] at k
          obtain ⟨d2, rfl⟩ : ∃ d', d = d' + 1 := ⟨d - 1, by omega⟩
          refine m_opens hX hop oo (fun h6 I2 f2 X2 o2 => ?_) (fun h6 I2 f2 X2 hpl => ?_)
          · obtain ⟨X3, p3⟩ := X2.next
            have f3 : GFr sl I (up2 I2 106 3 (I2 106 3 + 1)) := f2.tr (GFr.up (by omega))
            refine (hb h6).2 _ _ _ _ T (.inl t) sl e (P - 3) (by omega) (hL.gf f3) (fun s hs => (up2_nj (by omega)).trans o2) X3 (by omega) (fun I4 f4 X4 o4 => ?_)
            rw [if_neg (by omega)] at k
            rw [sq_inl] at X4 o4
            cases hc : xP vs n (op + 1) 3 t with
            | inr m =>
              rw [hc] at X4 k
              have X4 : MZ I4 T (.inr m) sl _ _ := X4
              have hfl : ¬ I4 106 4 < 0 := fun c => by
                obtain ⟨s, e⟩ := X4.1.fl.mp c
                cases e
              exact (brP_f hfl).mpr (qV_i (k I4 (f3.tr f4) (X4.in.le (by omega) (by omega)) (fun c s q => by cases q)))
            | inl cs =>
              obtain ⟨c1, s1⟩ := cs
              rw [hc] at X4 k
              refine (brP_t (X4.1.fl.mpr ⟨s1, rfl⟩)).mpr ?_
              have X5 := X4.down (v := I4 106 10 - 1)
              refine m_puts X5 (by omega) (fun I6 f6 X6 o6 => qV_i (k I6 (f3.tr (f4.tr ((GFr.up (by omega)).tr f6))) ?_ (fun c s q => ?_)))
              · have e1 : apE e (.inl (c1 ++ [-1000], s1)) = apE e (.inl (c1, s1)) ++ [3] := by
                  show e ++ encV (c1 ++ [-1000]) = e ++ encV c1 ++ [3]
                  rw [encV_app, encV_1, List.append_assoc]
                  rfl
                show MZ I6 T (.inl s1) sl (apE e (.inl (c1 ++ [-1000], s1))) (P + 1)
                rw [e1]
                exact X6.le (by omega) (by omega)
              · rw [o6, up2_eq, o4 _ _ hc]
                show z32 _ - z32 1 = _
                rw [z32_sub]
                congr 1
                omega
          · obtain ⟨a, a1, a2⟩ := hpl
            have M3 : MZ (up2 I2 106 3 (I2 106 3 + 1)) T (.inr (t.length + 1)) sl e P := by
              obtain ⟨h1, ⟨h3, h4, h5⟩, ⟨a', nn, b1, b2, b3, b4⟩, h6⟩ := X2
              rw [a2, z32_inj (by omega) (by omega) (by omega) (by omega)] at b2
              have hf : NFr I2 (up2 I2 106 3 (I2 106 3 + 1)) := NFr.up (by omega)
              have ea : I2 106 3 + 1 = z32 ((a + 1 : Nat) : Int) := by rw [a2, z32_s]
              obtain ⟨m1, m2, m3⟩ := h1
              have m3 : t.length + 1 ≤ T.length ∧ I2 106 4 = z32 ((T.length - (t.length + 1) : Nat) : Int) := m3
              refine ⟨⟨m1.nf hf, ⟨a + 1, a1, by rw [up2_eq, ea]⟩, m3.1, (up2_nj (by omega)).trans m3.2⟩, ⟨(up2_nj (by omega)).trans h3, h4, h5⟩, ⟨a + 1, nn, a1, by rw [up2_eq, ea], (up2_ne (by omega)).trans b3, by omega⟩, fun s hs => by cases hs⟩
            refine m_flt M3.1 ?_
            have hfl : ¬ (up2 I2 106 3 (I2 106 3 + 1)) 106 4 < 0 := fun c => by
              obtain ⟨s, e⟩ := M3.1.fl.mp c
              cases e
            rw [if_pos h6] at k
            exact (brP_f hfl).mpr (qV_i (k _ (f2.tr (GFr.up (by omega))) (M3.in.le (by omega) (by omega)) (fun c s q => by cases q)))
theorem hm_all (vs : Tx) : ∀ (n : Nat), ∀ op lv, op ≤ 6 → lv ≤ 3 → xN op lv ≤ n → HM vs n op lv := by
  intro n
  induction n with
  | zero => exact fun op lv h1 h2 h3 => by unfold xN at h3; omega
  | succ n ih =>
    intro op lv h1 h2 h3
    rcases (by omega : lv = 0 ∨ lv = 1 ∨ lv = 2 ∨ lv = 3) with rfl | rfl | rfl | rfl
    · exact hm_0 (ih op 1 h1 (by omega) (by unfold xN at *; omega))
    · exact hm_12 (Or.inl rfl) (ih op 2 h1 (by omega) (by unfold xN at *; omega))
    · exact hm_12 (Or.inr rfl) (ih op 3 h1 (by omega) (by unfold xN at *; omega))
    · exact hm_3 h1 (fun h6 => ⟨ih (op + 1) 0 (by omega) (by omega) (by unfold xN at *; omega), ih (op + 1) 3 (by omega) (by omega) (by unfold xN at *; omega)⟩)
