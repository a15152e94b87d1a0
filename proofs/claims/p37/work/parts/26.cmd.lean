theorem bnd3 {α β γ : Type} {q2 : PR Unit} {A : Tx → PR α} {B : Tx → PR β} {f : α → β → γ} : aft (bnd q2 (fun _ s1 => bnd (A s1) (fun am s2 => bnd (B s2) (fun t s3 => .inl (f am t, s3))))) = aft (sq (aft (sq (aft q2) A)) B) ∧
    ∀ c s3, bnd q2 (fun _ s1 => bnd (A s1) (fun am s2 => bnd (B s2) (fun t s3 => (.inl (f am t, s3) : PR γ)))) = .inl (c, s3) → ∃ am s2 t, sq (aft q2) A = .inl (am, s2) ∧ sq (aft (sq (aft q2) A)) B = .inl (t, s3) ∧ c = f am t := by
  rcases q2 with ⟨u, s1⟩ | m
  · show aft (bnd (A s1) _) = aft (sq (aft (A s1)) B) ∧ ∀ c s3, bnd (A s1) _ = _ → ∃ am s2 t, A s1 = _ ∧ sq (aft (A s1)) B = _ ∧ _
    rcases A s1 with ⟨am, s2⟩ | m
    · show aft (bnd (B s2) _) = aft (B s2) ∧ ∀ c s3, bnd (B s2) _ = _ → ∃ am' s2' t, _ = _ ∧ B s2 = _ ∧ _
      rcases B s2 with ⟨t, s3⟩ | m
      · refine ⟨rfl, fun c s3 e => ?_⟩
        cases e
        exact ⟨am, s2, t, rfl, rfl, rfl⟩
      · exact ⟨rfl, fun c s3 e => by cases e⟩
    · exact ⟨rfl, fun c s3 e => by cases e⟩
  · exact ⟨rfl, fun c s3 e => by cases e⟩
theorem mk_cmd {d : Nat} {I : IM} {D : DY} {K : IM → DY → Prop} {x y z : Int32} {fo : Option Nat} (hz : 159 ≤ dZ D)
    (k : ∀ I2 D2, DX XL D D2 1 4 → dZ D2 = dZ D + 1 → (∀ a j, a < dZ D → I2 a j = I a j) → dK D2 (dZ D) = 2 → dW D2 (dZ D) = 1 → I2 (dZ D) 0 = x → I2 (dZ D) 1 = y → I2 (dZ D) 2 = z → dR D2 (dZ D) 3 = fo → K I2 D2) :
    CAN (mkN (mm I D) 2 4) (fun I6 D3 => tsP (pKd (mm I6 D3) (dZ D) = 2) (AV (d + 1) 25 [vR (some (dZ D)), vI x, vI y, vI z, vR fo] (mm I6 D3) K)) := by
  refine can_mk 1 hz (tsP_i ?_ (c_Cinit hz up1_eq ?_))
  · rw [mmK hz]
    exact up1_eq
  · refine k _ _ (DX.setN (DX.mk (c := 2) (n := 4) (w := 1)) (Nat.le_refl _)) rfl (fun a j ha => ?_) up1_eq up1_eq ?_ ?_ up2_eq up2_eq
    · rw [up2_ne (by omega), up2_ne (by omega), up2_ne (by omega), upr_ne (by omega)]
    · rw [up2_nj (by omega), up2_nj (by omega), up2_eq]
    · rw [up2_nj (by omega), up2_eq]
theorem z32_0 : (0 : Int32) = z32 0 := rfl
theorem z32_e {n m : Nat} (hn : n < 2147483648) (hm : m < 2147483648) : z32 (n : Int) = z32 (m : Int) ↔ n = m := by rw [z32_inj] <;> omega
theorem cmT6 (s : Tx) : cmT 6 s = bnd (tkP 32 s) (fun _ s => bnd (wdP [[116, 111]] s) (fun _ s => bnd (tkP 32 s) (fun _ s => nbP 7 s))) := if_pos rfl
theorem cmd_tail {d : Nat} {I : IM} {D : DY} {K : IM → DY → Prop} {T : Tx} {r : PS} {q : Nat} {x4 : Int32} {fo : Option Nat} (hq : q < 8) (hz : 159 ≤ dZ D) (hS : SOK I) (h : PC I T r)
    (k : ∀ I2 D2 x9, DX XL D D2 1 4 → dZ D2 = dZ D + 1 → PFa I I2 D → PC I2 T (aft (sq r (cmT q))) → dK D2 (dZ D) = 2 → dW D2 (dZ D) = 1 → I2 (dZ D) 0 = z32 (q : Int) → I2 (dZ D) 1 = x4 → I2 (dZ D) 2 = x9 → dR D2 (dZ D) 3 = fo → (∀ t s, sq r (cmT q) = .inl (t, s) → x9 = z32 t ∧ 0 ≤ t) → K I2 D2) :
    brP (¬ z32 (q : Int) = 6) (CAN (mkN (mm I D) 2 4) (fun I6 D3 => tsP (pKd (mm I6 D3) (dZ D) = 2) (AV (d + 6) 25 [vR (some (dZ D)), vI (z32 (q : Int)), vI x4, vI 0, vR fo] (mm I6 D3) K)))
      (CV (d + 6) 26 [vR (some 46), vI 32] (mm I D) (fun I8 => CI (d + 6) 18 [vR (some 46), vR (some 15)] (mm I8 D) (fun _ I9 => CV (d + 6) 26 [vR (some 46), vI 32] (mm I9 D) (fun I10 => CI (d + 6) 32 [vR (some 46), vI 7] (mm I10 D) (fun x9 I11 => CAN (mkN (mm I11 D) 2 4) (fun I12 D5 => tsP (pKd (mm I12 D5) (dZ D) = 2) (AV (d + 6) 25 [vR (some (dZ D)), vI (z32 (q : Int)), vI x4, vI x9, vR fo] (mm I12 D5) K))))))) := by
  have e6 : z32 (q : Int) = 6 ↔ q = 6 := z32_e (m := 6) (by omega) (by omega)
  refine brP_i (fun z => ?_) (fun z => ?_)
  · have z6 : q ≠ 6 := fun e => z (e6.mpr e)
    have ec : sq r (cmT q) = (match r with
        | .inl s => .inl (0, s)
        | .inr m => .inr m) := by
      cases r with
      | inl s => show (if q = 6 then _ else _) = _; rw [if_neg z6]
      | inr m => rfl
    refine mk_cmd (d := d + 5) hz (fun I2 D2 h1 h2 h3 h4 h5 h6 h7 h8 h9 => k I2 D2 0 h1 h2 (fun a j ha _ _ => h3 a j ha) ?_ h4 h5 h6 h7 h8 h9 (fun t s e => ?_))
    · rw [ec]
      have := h.fa (D := D) (fun a k ha => h3 a k (by omega))
      cases r <;> exact this
    · rw [ec] at e
      cases r <;> cases e
      exact ⟨rfl, Int.le_refl _⟩
  · have z6 := e6.mp (Classical.not_not.mp z)
    subst z6
    refine c_take (d := d + 5) h (by decide) (fun I3 hf3 hP3 => ?_)
    refine c_word (d := d) (j := 7) (hS.fr hf3) (by omega) w_to (by decide) hP3 (fun x I4 hf4 hP4 _ _ => ?_)
    refine c_take (d := d + 5) hP4 (by decide) (fun I5 hf5 hP5 => ?_)
    refine c_number (d := d + 5) (most := 7) (by omega) (by omega) hP5 (fun x9 I6 hf6 hP6 hv => ?_)
    have ec : sq (aft (sq (aft (sq (aft (sq r (tkP 32))) (wdP [[116, 111]]))) (tkP 32))) (nbP 7) = sq r (cmT 6) := by
      cases r with
      | inr m => rfl
      | inl s =>
        rw [sq_inl, sq_inl, cmT6]
        show sq (aft (sq (aft (sq (aft (tkP 32 s)) (wdP [[116, 111]]))) (tkP 32))) (nbP 7) = _
        rcases tkP 32 s with ⟨u, s1⟩ | m
        · show sq (aft (sq (aft (wdP [[116, 111]] s1)) (tkP 32))) (nbP 7) = bnd (wdP [[116, 111]] s1) _
          rcases wdP [[116, 111]] s1 with ⟨u2, s2⟩ | m
          · show sq (aft (tkP 32 s2)) (nbP 7) = bnd (tkP 32 s2) _
            rcases tkP 32 s2 with ⟨u3, s3⟩ | m <;> rfl
          · rfl
        · rfl
    rw [ec] at hP6 hv
    refine mk_cmd (d := d + 5) hz (fun I2 D2 h1 h2 h3 h4 h5 h6 h7 h8 h9 => k I2 D2 x9 h1 h2 ?_ (hP6.fa (D := D) (fun a k ha => h3 a k (by omega))) h4 h5 h6 h7 h8 h9 (fun t s e => ⟨hv t s e, ?_⟩))
    · exact fun a j ha hb hc => (h3 a j ha).trans ((((hf3.tr hf4).tr hf5).tr hf6).x.a (D := D) a j ha hb hc)
    · have : ∀ s t s2, nbP 7 s = .inl (t, s2) → 0 ≤ t := fun s t s2 e => by
        unfold nbP at e
        split at e
        · cases e
        · cases e
          exact (dgV_b _ (dgOf s) rfl List.all_takeWhile).1
      rw [← ec] at e
      revert e
      generalize aft (sq (aft (sq (aft (sq r (tkP 32))) (wdP [[116, 111]]))) (tkP 32)) = r9
      intro e
      cases r9 with
      | inl s0 => exact this s0 t s e
      | inr m => cases e
theorem absV_ok : sL 0 = absV ∧ 0 < absV.length ∧ absV.length ≤ 5 ∧ ∀ x ∈ absV, lowB x = true := by decide +kernel
theorem cmP_q {pol : Bool} {s0 s : Tx} {q : Nat} (hw : wdP verbW s0 = .inl (q, s)) (h7 : q ≠ 7) : cmP pol s0 = bnd (tkP 32 s) (fun _ s => bnd (cmA pol s) (fun am s => bnd (cmT q s) (fun t s => .inl ((q, am.1, t.toNat, am.2), s)))) := by
  unfold cmP
  rw [hw]
  exact if_neg h7
theorem c_command {d : Nat} {I : IM} {D : DY} {K : Option Nat → IM → DY → Prop} {T : Tx} {r : PS} {pol : Bool} (hd : 80 ≤ d) (hz : 159 ≤ dZ D) (hS : SOK I) (h : PC I T r)
    (k : ∀ a I2 D2, DX XL D D2 4 198 → PFa I I2 D → PC I2 T (aft (sq r (cmP pol))) → 159 ≤ a → dZ D ≤ a → a < dZ D2 → dK D2 a = 2 → (∀ cm s, sq r (cmP pol) = .inl (cm, s) → isC I2 D2 a cm) → K (some a) I2 D2) :
    AR (d + 1) 17 [vR (some 46), vI (b32 (pol = true))] (mm I D) K := by
  obtain ⟨d, rfl⟩ : ∃ d', d = d' + 6 := ⟨d - 6, by omega⟩
  refine s_Tape_command _ ?_
  refine c_word (d := d) (j := 3) hS (by omega) w_verb (by decide +kernel) h (fun x1 I1 hf1 hP1 hv1 he1 => ?_)
  cases hw : sq r (wdP verbW) with
  | inr m =>
    obtain rfl := he1 (fun q s e => by rw [hw] at e; cases e)
    rw [hw] at hP1
    have ec : sq r (cmP pol) = .inr m := by
      cases r with
      | inl s => rw [sq_inl] at hw ⊢; unfold cmP; rw [hw]; rfl
      | inr m2 => cases hw; rfl
    rw [brP_t rfl]
    refine mk_cmd (d := d + 5) hz (fun I2 D2 h1 h2 h3 h4 h5 h6 h7 h8 h9 => aR_i rfl (k _ _ _ (h1.le (by omega) (by omega)) ?_ ?_ hz (Nat.le_refl _) (by omega) h4 (fun cm s e => by rw [ec] at e; cases e)))
    · exact fun a j ha hb hc => (h3 a j ha).trans (hf1.x.a (D := D) a j ha hb hc)
    · rw [ec]
      exact hP1.fa (D := D) (fun a k ha => h3 a k (by omega))
  | inl qs =>
    obtain ⟨q, s⟩ := qs
    obtain rfl := hv1 q s hw
    rw [hw] at hP1
    have hP1 : PC I1 T (.inl s) := hP1
    obtain ⟨s0, rfl⟩ : ∃ s0, r = .inl s0 := by
      cases r with
      | inl s0 => exact ⟨s0, rfl⟩
      | inr m => cases hw
    rw [sq_inl] at hw k
    have hq8 : q < 8 := wdP_lt hw
    rw [brP_f (by rw [z32_m1, z32_inj] <;> omega)]
    have e7 : z32 (q : Int) = 7 ↔ q = 7 := z32_e (m := 7) (by omega) (by omega)
    refine brP_i (fun z => ?_) (fun z => ?_)
    · have h7 : q ≠ 7 := fun e => z (e7.mpr e)
      have ecm := cmP_q (pol := pol) hw h7
      refine c_take (d := d + 5) hP1 (by decide) (fun I2 hf2 hP2 => ?_)
      rw [sq_inl] at hP2
      have hS2 := (hS.fr hf1).fr hf2
      have hf12 : PFr I I2 := hf1.tr hf2
      obtain ⟨b3a, b3b⟩ := bnd3 (q2 := tkP 32 s) (A := cmA pol) (B := cmT q) (f := fun am t => ((q, am.1, t.toNat, am.2) : Cm))
      rw [← ecm] at b3a b3b
      have hend : ∀ {I3 : IM} {D3 : DY} {x4 : Int32} {fo : Option Nat}, 159 ≤ dZ D3 → DX XL D D3 3 194 → PFa I I3 D → SOK I3 → PC I3 T (aft (sq (aft (tkP 32 s)) (cmA pol))) → (∀ am s2, sq (aft (tkP 32 s)) (cmA pol) = .inl (am, s2) → x4 = z32 am.1 ∧ ((am.2 = none ∧ fo = none) ∨ ∃ c f, am.2 = some c ∧ fo = some f ∧ isF I3 D3 f c)) →
          ∀ I4 D4 x9, DX XL D3 D4 1 4 → dZ D4 = dZ D3 + 1 → PFa I3 I4 D3 → PC I4 T (aft (sq (aft (sq (aft (tkP 32 s)) (cmA pol))) (cmT q))) → dK D4 (dZ D3) = 2 → dW D4 (dZ D3) = 1 → I4 (dZ D3) 0 = z32 (q : Int) → I4 (dZ D3) 1 = x4 → I4 (dZ D3) 2 = x9 → dR D4 (dZ D3) 3 = fo → (∀ t s3, sq (aft (sq (aft (tkP 32 s)) (cmA pol))) (cmT q) = .inl (t, s3) → x9 = z32 t ∧ 0 ≤ t) → aR K (some (vR (some (dZ D3)))) (mm I4 D4) := by
        intro I3 D3 x4 fo g1 g2 g3 g4 g5 g6 I4 D4 x9 h1 h2 h3 h4 h5 h6 h7 h8 h9 h10 h11
        refine aR_i rfl (k _ _ _ ((g2.tr h1).le (by omega) (by omega)) (g3.tr g2 h3) ?_ g1 g2.1 (by omega) h5 (fun cm s3 e => ?_))
        · rw [b3a]
          exact h4
        · obtain ⟨am, s2, t, e1, e2, rfl⟩ := b3b cm s3 e
          obtain ⟨rfl, hfo⟩ := g6 am s2 e1
          obtain ⟨rfl, ht⟩ := h11 t s3 e2
          refine ⟨g1, by omega, h5, h6, h7, h8, ?_, ?_⟩
          · rw [h9]
            show z32 t = z32 ((t.toNat : Nat) : Int)
            rw [Int.toNat_of_nonneg ht]
          · rcases hfo with ⟨q1, q2⟩ | ⟨c, f, q1, q2, q3⟩
            · exact Or.inl ⟨q1, by rw [h10]; exact q2⟩
            · exact Or.inr ⟨c, f, q1, by rw [h10]; exact q2, q3.mono h1 XLn h3.im⟩
      have hnum : (∀ s1, aft (tkP 32 s) = .inl s1 → cmA pol s1 = bnd (nbP 999 s1) (fun v s => .inl ((v, none), s))) → ∀ x4 I3, PFr I2 I3 → PC I3 T (aft (sq (aft (tkP 32 s)) (nbP 999))) → (∀ v s', sq (aft (tkP 32 s)) (nbP 999) = .inl (v, s') → x4 = z32 v) →
          PC I3 T (aft (sq (aft (tkP 32 s)) (cmA pol))) ∧ ∀ am s2, sq (aft (tkP 32 s)) (cmA pol) = .inl (am, s2) → x4 = z32 am.1 ∧ am.2 = none := by
        intro ha x4 I3 hf3 hP3 hv3
        revert ha hP3 hv3
        generalize aft (tkP 32 s) = r1
        intro ha hP3 hv3
        cases r1 with
        | inr m => exact ⟨hP3, fun am s2 e => by cases e⟩
        | inl s1 =>
          rw [sq_inl] at *
          rw [ha s1 rfl]
          rcases hn : nbP 999 s1 with ⟨v, s2⟩ | m
          · rw [hn] at hP3 hv3
            exact ⟨hP3, fun am s3 e => by cases e; exact ⟨hv3 v s2 rfl, rfl⟩⟩
          · rw [hn] at hP3
            exact ⟨hP3, fun am s3 e => by cases e⟩
      refine brP_i (fun z0 => ?_) (fun z0 => ?_)
      · have hp : pol = false := by
          rw [b32_0] at z0
          cases pol
          · rfl
          · exact absurd rfl z0
        refine c_number (d := d + 5) (most := 999) (by omega) (by omega) hP2 (fun x4 I3 hf3 hP3 hv3 => ?_)
        obtain ⟨g1, g2⟩ := hnum (fun s1 _ => by rw [hp]; rfl) x4 I3 hf3 hP3 hv3
        exact cmd_tail (d := d) (K := fun I4 D4 => aR K (some (vR (some (dZ D)))) (mm I4 D4)) hq8 hz (hS2.fr hf3) g1 (hend hz DX.rf (hf12.tr hf3).x.a (hS2.fr hf3) g1 (fun am s2 e => ⟨(g2 am s2 e).1, Or.inl ⟨(g2 am s2 e).2, rfl⟩⟩))
      · have hp : pol = true := by
          rw [b32_0] at z0
          exact Classical.not_not.mp z0
        rw [e_peek hP2]
        refine brP_i (fun z4 => ?_) (fun z4 => ?_)
        · refine c_number (d := d + 5) (most := 999) (by omega) (by omega) hP2 (fun x4 I3 hf3 hP3 hv3 => ?_)
          obtain ⟨g1, g2⟩ := hnum (fun s1 hs1 => by
            rw [hs1] at z4
            unfold cmA
            have : (pol && decide (s1.head? = some 40)) = false := by
              rw [hp]
              cases s1 with
              | nil => rfl
              | cons x t =>
                have z4 : ¬ x = 40 := z4
                show (true && decide (some x = some 40)) = false
                rw [decide_eq_false (fun e => z4 (Option.some.inj e))]
                rfl
            rw [this]) x4 I3 hf3 hP3 hv3
          exact cmd_tail (d := d) (K := fun I4 D4 => aR K (some (vR (some (dZ D)))) (mm I4 D4)) hq8 hz (hS2.fr hf3) g1 (hend hz DX.rf (hf12.tr hf3).x.a (hS2.fr hf3) g1 (fun am s2 e => ⟨(g2 am s2 e).1, Or.inl ⟨(g2 am s2 e).2, rfl⟩⟩))
        · obtain ⟨t, hr1⟩ := pk_cons (Classical.not_not.mp z4) (by decide)
          rw [hr1] at hP2 hend
          have hfn : PFr I2 (up2 I2 46 5 (I2 46 5 + 1)) := PFr.up (by omega)
          refine c_formula (d := d + 5) (jl := 0) (op := 1) (by omega) (by omega) hz (hS2.fr hfn) (by omega) absV_ok.1 absV_ok.2 hP2.next (fun I3 D3 h1 h2 h3 h4 h5 h6 => ?_)
          rw [sq_inl] at h5 h6
          have hS3 : SOK I3 := (hS2.fr hfn).fa h4 hz
          refine c_take (d := d + 5) h5 (by decide) (fun I4 hf4 hP4 => ?_)
          have ecA : cmA pol (40 :: t) = bnd (cP absV 1 t) (fun c s => bnd (tkP 41 s) (fun _ s => .inl (((0 : Int), some c), s))) := by
            unfold cmA
            rw [hp]
            rfl
          have g1 : PC I4 T (aft (sq (.inl (40 :: t)) (cmA pol))) ∧ ∀ am s2, sq (.inl (40 :: t)) (cmA pol) = .inl (am, s2) → am.1 = 0 ∧ ∃ c, am.2 = some c ∧ isF I3 D3 (dZ D) c := by
            rw [sq_inl, ecA]
            rcases hc : cP absV 1 t with ⟨c, s2⟩ | m
            · rw [hc] at hP4
              have hP4 : PC I4 T (aft (tkP 41 s2)) := hP4
              show PC I4 T (aft (bnd (tkP 41 s2) _)) ∧ ∀ am s3, bnd (tkP 41 s2) _ = _ → _
              rcases ht : tkP 41 s2 with ⟨u, s3⟩ | m
              · rw [ht] at hP4
                exact ⟨hP4, fun am s4 e => by cases e; exact ⟨rfl, c, rfl, h6 c s2 hc⟩⟩
              · rw [ht] at hP4
                exact ⟨hP4, fun am s4 e => by cases e⟩
            · rw [hc] at hP4
              exact ⟨hP4, fun am s4 e => by cases e⟩
          have hfa : PFa I I4 D := fun a j ha hb hc => (hf4.x a j hb hc).trans ((h4 a j ha hb hc).trans ((hf12.tr hfn).x a j hb hc))
          refine cmd_tail (d := d) (K := fun I5 D5 => aR K (some (vR (some (dZ D3)))) (mm I5 D5)) (x4 := 0) (fo := some (dZ D)) hq8 (by omega) (hS3.fr hf4) g1.1 (hend (by omega) h1 hfa (hS3.fr hf4) g1.1 (fun am s2 e => ?_))
          obtain ⟨q1, c, q2, q3⟩ := g1.2 am s2 e
          exact ⟨by rw [q1]; rfl, Or.inr ⟨c, dZ D, q2, rfl, q3.mono (DX.rf (X := XL) (c := 0) (s := 0)) XLn hf4.x.a.im⟩⟩
    · have h7 : q = 7 := e7.mp (Classical.not_not.mp z)
      have ecm : cmP pol s0 = .inl ((8, 0, 0, none), s) := by
        unfold cmP
        rw [hw]
        exact if_pos h7
      refine mk_cmd (d := d + 5) hz (fun I2 D2 h1 h2 h3 h4 h5 h6 h7 h8 h9 => aR_i rfl (k _ _ _ (h1.le (by omega) (by omega)) ?_ ?_ hz (Nat.le_refl _) (by omega) h4 (fun cm s e => ?_)))
      · exact fun a j ha hb hc => (h3 a j ha).trans (hf1.x.a (D := D) a j ha hb hc)
      · rw [ecm]
        exact hP1.fa (D := D) (fun a k ha => h3 a k (by omega))
      · rw [ecm] at e
        cases e
        exact ⟨hz, by omega, h4, h5, h6, h7, h8, Or.inl ⟨rfl, h9⟩⟩
