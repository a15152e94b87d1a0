/-! The class's calls: the tape, commands. -/
def GD (D D2 : DY) : Prop := dZ D ≤ dZ D2 ∧ dZ D2 ≤ dZ D + 200 ∧ dL D2 ≤ dL D + 8000 ∧ ∀ a, a < dZ D → dW D2 a = dW D a
theorem GD.rf {D : DY} : GD D D := ⟨Nat.le_refl _, Nat.le_add_right _ _, Nat.le_add_right _ _, fun _ _ => rfl⟩
theorem DX.g {X : Nat → Prop} {D D2 : DY} {c s : Nat} (h : DX X D D2 c s) (h1 : c ≤ 200) (h2 : s ≤ 8000) : GD D D2 := ⟨h.1, Nat.le_trans h.2.1 (by omega), Nat.le_trans h.2.2.1 (by omega), fun a ha => (h.2.2.2 a ha).2.2.1⟩
theorem RC.parsed {T : Tx} {σ : SS} {κ : Option SS} {I I2 I3 : IM} {D D2 : DY} {c s : Nat} (h : RC (T, σ, κ) I D) (hd : DX X46 D D2 c s) (hf : PFb I I2 D) (he : ∀ b j, (b = 46 → j ≠ 4 ∧ j ≠ 5 ∧ j ≠ 6) → I3 b j = I2 b j) (h0 : I3 46 4 = 0) : RC ([], σ, κ) I3 D2 ∧ FrM I I3 := by
  have h1 := h.1
  refine ⟨h.mono hd (fun q j g1 g2 => ?_) (TP.nil h0), fun q k g1 g2 => ?_⟩
  · unfold CSp at g2
    rw [he q j (fun e => by omega), hf q j g1 (by omega) (by omega) (fun e => by omega) (fun e => by omega)]
  · rw [he q k (fun e => by omega), hf q k (by omega) (by omega) (by omega) (fun e => by omega) (fun e => by omega)]
theorem MX.m {I I2 : IM} (h : MX I I2) : FrM I I2 := fun q k g1 g2 => h.at (by omega)
theorem RC.mx {T : Tx} {σ σ' : SS} {κ : Option SS} {I I2 : IM} {D : DY} (h : RC (T, σ, κ) I D) (hf : MX I I2) (hB : RB 0 σ' I2 D) (hP : zP σ' = zP σ) (hQ : zQ σ' = zQ σ) : RC (T, σ', κ) I2 D := by
  have h3 : TP I T := h.2.2.1
  exact h.setB (DX.rf (c := 0) (s := 0)) (fun q j g1 g2 g3 => hf.at (by omega)) (h3.lo (hf.at (by omega)) (fun k => hf.at (by omega))) hB hP hQ
theorem carS_PQ {σ : SS} {s : Nat} {cm : Cm} {amt : Int32} : zP (carS σ s cm amt).1 = zP σ ∧ zQ (carS σ s cm amt).1 = zQ σ := by
  unfold carS hapS
  repeat' split
  all_goals exact ⟨rfl, rfl⟩
theorem askS_PQ {σ : SS} {s n : Nat} {ex : Int32} {cm : Cm} : zP (askS σ s ex n cm).1 = zP σ ∧ zQ (askS σ s ex n cm).1 = zQ σ := by
  unfold askS
  repeat' split
  · exact ⟨rfl, rfl⟩
  · exact carS_PQ
  · exact carS_PQ
  · exact ⟨rfl, rfl⟩
theorem tryS_PQ {σ : SS} {c s v : Nat} {fg : Bool} {cm : Cm} : zP (tryS σ c s v fg cm).1 = zP σ ∧ zQ (tryS σ c s v fg cm).1 = zQ σ := by
  unfold tryS
  repeat' split
  · exact carS_PQ
  · exact carS_PQ
  · exact ⟨rfl, rfl⟩
theorem batS_PQ {σ : SS} {l : List LN} : zP (batS σ l).1 = zP σ ∧ zQ (batS σ l).1 = zQ σ := by
  have : ∀ (l : List LN) (σ : SS), zP (carL σ l) = zP σ ∧ zQ (carL σ l) = zQ σ := by
    intro l
    induction l with
    | nil => intro σ; exact ⟨rfl, rfl⟩
    | cons x l ih =>
      intro σ
      have h1 := ih (carS σ x.1 x.2 (z32 x.2.2.1)).1
      have h2 := carS_PQ (σ := σ) (s := x.1) (cm := x.2) (amt := z32 x.2.2.1)
      exact ⟨h1.1.trans h2.1, h1.2.trans h2.2⟩
  unfold batS
  repeat' split
  · exact ⟨rfl, rfl⟩
  · exact ⟨rfl, rfl⟩
  · exact this l σ
section
variable {d : Nat} {I : IM} {D : DY}
def S_feed (τ : ST) (c : Int32) : ST × Int32 := if 1 ≤ c ∧ c ≤ 255 then (if (tT τ).length < 160 then ((tT τ ++ [c], tS τ, tI τ), z32 (((tT τ).length + 1 : Nat) : Int)) else (τ, -3)) else (τ, -1)
theorem p_feed {τ : ST} {K : Int32 → IM → Prop} (h : RC τ I D) (c : Int32) (k : ∀ I2, FrM I I2 → RC (S_feed τ c).1 I2 D → K (S_feed τ c).2 I2) : CI (d + 100) 11 [vR (some 45), vI c] (mm I D) K := by
  obtain ⟨T, σ, κ⟩ := τ
  have h3 : TP I T := h.2.2.1
  have h160 := h3.2.1
  unfold S_feed at k
  refine s_S_feed _ ?_
  rw [e_within]
  refine br0 (fun hs => ?_) (fun hs => qI_i ?_)
  · rw [if_pos hs] at k
    refine s_Tape_add _ ?_
    rw [h3.1]
    refine brP_i (fun q => tsP_i (inB_n (by have q : z32 (T.length : Int) < z32 160 := q; rw [z32_lt (by omega) (by omega) (by omega) (by omega)] at q; omega) (by omega)) (qI_i (qI_i ?_))) (fun q => qI_i (qI_i ?_))
    · have q : z32 (T.length : Int) < z32 160 := q
      rw [z32_lt (by omega) (by omega) (by omega) (by omega)] at q
      rw [if_pos (show T.length < 160 by omega)] at k
      rw [ix_n (by omega), z32_s]
      refine k _ (fun q j g1 g2 => by rw [up2_ne (by omega), up2_ne (by omega)]) (h.mono (DX.rf (c := 0) (s := 0)) (fun q j g1 g2 => ?_) ⟨?_, ?_, fun j hj => ?_, fun x hx => ?_⟩)
      · unfold CSp at g2
        rw [up2_ne (by omega), up2_ne (by omega)]
      · rw [up2_eq, List.length_append, List.length_singleton]
      · rw [List.length_append, List.length_singleton]
        show T.length + 1 ≤ 160
        omega
      · rw [List.length_append, List.length_singleton] at hj
        have hj : j < T.length + 1 := hj
        rw [up2_ne (by omega), getD_snoc]
        by_cases e : j = T.length
        · rw [e, up2_eq, if_pos rfl]
        · rw [up2_nj e, if_neg e]
          exact h3.2.2.1 j (by omega)
      · rw [List.mem_append, List.mem_singleton] at hx
        rcases hx with hx | rfl
        · exact h3.2.2.2 x hx
        · have g1 : z32 1 ≤ x := hs.1
          have g2 : x ≤ z32 255 := hs.2
          rw [lit_le (by omega) (by omega)] at g1
          rw [le_lit (by omega) (by omega)] at g2
          exact ⟨g1, g2⟩
    · have q : ¬ z32 (T.length : Int) < z32 160 := q
      rw [z32_lt (by omega) (by omega) (by omega) (by omega)] at q
      rw [if_neg (show ¬ T.length < 160 by omega)] at k
      exact k I FrM.rf h
  · rw [if_neg hs] at k
    exact k I FrM.rf h
def S_ask (τ : ST) (s ex n : Int32) : ST × Int32 := if (0 ≤ s ∧ s ≤ 7) ∧ ¬ ex < -1 ∧ 0 ≤ n ∧ n ≤ 999 then (match allP (tT τ) (cmP false (tT τ)) with
  | .inr f => (([], tS τ, tI τ), fltV f)
  | .inl cm => (([], (askS (tS τ) (aN s) ex (aN n) cm).1, tI τ), (askS (tS τ) (aN s) ex (aN n) cm).2)) else (τ, -1)
theorem p_ask {τ : ST} {K : Int32 → IM → DY → Prop} (h : RC τ I D) (wf : WF (tS τ)) (s ex n : Int32) (k : ∀ I2 D2, FrM I I2 → GD D D2 → RC (S_ask τ s ex n).1 I2 D2 → K (S_ask τ s ex n).2 I2 D2) : AI (d + 100) 14 [vR (some 45), vI s, vI ex, vI n] (mm I D) K := by
  obtain ⟨T, σ, κ⟩ := τ
  have h3 : TP I T := h.2.2.1
  unfold S_ask at k
  have bad : ¬ ((0 ≤ s ∧ s ≤ 7) ∧ ¬ ex < -1 ∧ 0 ≤ n ∧ n ≤ 999) → K (-1) I D := fun c => by
    rw [if_neg c] at k
    exact k I D FrM.rf GD.rf h
  refine s_S_ask _ _ _ ?_
  rw [e_isStream]
  refine br0 (fun hs => brP_i (fun he => aI_i rfl (bad (fun c => c.2.1 he))) (fun he => ?_)) (fun hs => aI_i rfl (bad (fun c => hs c.1)))
  rw [e_within]
  refine br1 (fun hn => ?_) (fun hn => aI_i rfl (bad (fun c => hn c.2.2)))
  rw [if_pos ⟨hs, he, hn⟩] at k
  obtain ⟨sn, rfl, hsn⟩ := rng (m := 7) (by omega) hs
  obtain ⟨nn, rfl, hnn⟩ := rng (m := 999) (by omega) hn
  rw [aN_z (by omega), aN_z (by omega)] at k
  refine c_begin h3 (fun I1 f1 P1 => ?_)
  refine c_command (d := d + 98) (pol := false) (by omega) h.1 (h.2.1.fr f1) P1 (fun a I2 D2 x2 f2 P2 g1 g2 g3 g4 g5 => ?_)
  rw [sq_inl] at P2 g5
  have x2' := x2.mono XL46
  have fb : PFb I I2 D := (PFa.tr (X := XL) (c := 0) (s := 0) f1.x.a DX.rf f2).b
  refine end_go (d := d + 98) P2 (fun cm I3 e1 e2 f3 z3 => ?_) (fun f I3 e1 f3 z3 => ?_)
  · obtain ⟨r3, m3⟩ := h.parsed x2' fb f3 z3
    have e1 : allP (tT (T, σ, κ)) (cmP false (tT (T, σ, κ))) = .inl cm := e1
    rw [e1] at k
    have hc := g5 cm [] e2
    have hc3 : isC I3 D2 a cm := hc.mf (fun q j h1 h2 h3 => f3 q j (fun e => by omega))
    obtain ⟨ok, -⟩ := cmP_wf h3.2.1 e2
    have b3 : RB 0 σ I3 D2 := r3.b
    refine c_asked (d := d + 94) b3 (by omega) (by omega) hc3 ok wf.2.2.1 (fun I4 m4 b4 => ?_)
    exact aI_i rfl (k I4 D2 (m3.tr m4.m) (x2.g (by omega) (by omega)) (r3.mx m4 b4 askS_PQ.1 askS_PQ.2))
  · obtain ⟨r3, m3⟩ := h.parsed x2' fb f3 z3
    have e1 : allP (tT (T, σ, κ)) (cmP false (tT (T, σ, κ))) = .inr f := e1
    rw [e1] at k
    rw [flt_e]
    exact aI_i rfl (k I3 D2 m3 (x2.g (by omega) (by omega)) r3)
def S_attempt (τ : ST) (c w : Int32) : ST × Int32 := if (0 ≤ c ∧ c ≤ 3) ∧ 0 ≤ w ∧ w ≤ 1 then (match zE (tS τ) (aN c) with
  | none => (τ, -5)
  | some (s, v) => (match allP (tT τ) (cmP false (tT τ)) with
    | .inr f => (([], tS τ, tI τ), fltV f)
    | .inl cm => (([], (tryS (tS τ) (aN c) s v (decide (w = 1)) cm).1, tI τ), (tryS (tS τ) (aN c) s v (decide (w = 1)) cm).2))) else (τ, -1)
theorem BF.m {I I2 : IM} (h : BF I I2) : FrM I I2 := fun q k g1 g2 => h q k (by omega) (by omega) (by omega) (by omega) (by omega) (by omega) (by omega) (by omega) (by omega)
def S_batch (τ : ST) : ST × Int32 := match allP (tT τ) (lnsP 40 [] (tT τ)) with
  | .inr f => (([], tS τ, tI τ), fltV f)
  | .inl l => (([], (batS (tS τ) l).1, tI τ), (batS (tS τ) l).2)
theorem p_batch {τ : ST} {K : Int32 → IM → DY → Prop} (h : RC τ I D) (wf : WF (tS τ)) (k : ∀ I2 D2, FrM I I2 → GD D D2 → RC (S_batch τ).1 I2 D2 → K (S_batch τ).2 I2 D2) : AI (d + 100) 63 [vR (some 45)] (mm I D) K := by
  obtain ⟨T, σ, κ⟩ := τ
  have h3 : TP I T := h.2.2.1
  unfold S_batch at k
  refine s_S_batch (c_begin h3 (fun I1 f1 P1 => ?_))
  refine c_readLines (d := d + 98) (by omega) h.1 (h.2.1.fr f1) P1 (fun I2 D2 x2 f2 P2 g5 => ?_)
  have fb : PFb I I2 D := PFb.tr (X := X46) (c := 0) (s := 0) f1.x.a.b DX.rf f2
  refine end_go (d := d + 98) P2 (fun l I3 e1 e2 f3 z3 => ?_) (fun f I3 e1 f3 z3 => ?_)
  · obtain ⟨r3, m3⟩ := h.parsed x2 fb f3 z3
    have e1 : allP (tT (T, σ, κ)) (lnsP 40 [] (tT (T, σ, κ))) = .inl l := e1
    rw [e1] at k
    have hB : isB I3 D2 l := (g5 l [] e2).fr (f3 49 3 (fun e => by omega)) (fun j => f3 50 j (fun e => by omega)) (fun q j h1 h2 h3 => f3 q j (fun e => by omega))
    have ok := lnsP_wf 40 [] T l [] h3.2.1 (fun x hx => by cases hx) e2
    have b3 : RB 0 σ I3 D2 := r3.b
    refine c_carryAll (d := d + 93) b3 hB (fun x hx => (ok x hx).1) wf.2.2.1 (fun I4 m4 b4 => ?_)
    have h33 : TP I3 [] := r3.2.2.1
    refine aI_i rfl (k I4 D2 (m3.tr m4.m) (x2.g (by omega) (by omega)) (r3.setB (DX.rf (c := 0) (s := 0)) (fun q j g1 g2 g3 => m4 q j ?_ ?_ (by omega) (by omega) (by omega) (by omega) (by omega) (by omega) (by omega)) (h33.lo ?_ (fun j => ?_)) b4 batS_PQ.1 batS_PQ.2))
    · unfold CSp at g3; omega
    · omega
    · exact m4 _ _ (by omega) (by omega) (by omega) (by omega) (by omega) (by omega) (by omega) (by omega) (by omega)
    · exact m4 _ _ (by omega) (by omega) (by omega) (by omega) (by omega) (by omega) (by omega) (by omega) (by omega)
  · obtain ⟨r3, m3⟩ := h.parsed x2 fb f3 z3
    have e1 : allP (tT (T, σ, κ)) (lnsP 40 [] (tT (T, σ, κ))) = .inr f := e1
    rw [e1] at k
    rw [flt_e]
    exact aI_i rfl (k I3 D2 m3 (x2.g (by omega) (by omega)) r3)
def S_foresee (τ : ST) (s w : Int32) : ST × Int64 := if (0 ≤ s ∧ s ≤ 7) ∧ 0 ≤ w ∧ w ≤ 5 then (match allP (tT τ) (lnsP 40 [] (tT τ)) with
  | .inr f => (([], tS τ, tI τ), -9223372036854775708 + (z32 (f : Int)).toInt64)
  | .inl l => (([], tS τ, tI τ), if 2 ≤ w then (s4 (aN w - 2) ((thk (240 - (zL (tS τ)).length) (stF (zC (tS τ)) (zL (tS τ))) l 0 0).2.2.2 (aN s))).toInt64 else if w = 0 then (z32 ((thk (240 - (zL (tS τ)).length) (stF (zC (tS τ)) (zL (tS τ))) l 0 0).1 : Int)).toInt64
    else (z32 ((thk (240 - (zL (tS τ)).length) (stF (zC (tS τ)) (zL (tS τ))) l 0 0).2.1 : Int)).toInt64)) else (τ, -9223372036854775808)
def S_snap (τ : ST) (s : Int32) : ST × Int32 := if 0 ≤ s ∧ s ≤ 7 then ((tT τ, wN (tS τ) (addS (zN (tS τ)) (aN s) (vrS (zL (tS τ)) (aN s)) (eraC (zC (tS τ)))), tI τ), z32 (vrS (zL (tS τ)) (aN s) : Int)) else (τ, -1)
theorem p_snap {τ : ST} {K : Int32 → IM → Prop} (h : RC τ I D) (s : Int32) (k : ∀ I2, FrM I I2 → RC (S_snap τ s).1 I2 D → K (S_snap τ s).2 I2) : CI (d + 100) 95 [vR (some 45), vI s] (mm I D) K := by
  obtain ⟨T, σ, κ⟩ := τ
  have h3 : TP I T := h.2.2.1
  have hl := h.L.2.1
  have he := eraC_le (CWF.of h).1
  unfold S_snap at k
  refine s_S_snap _ ?_
  rw [e_isStream]
  refine br1 (fun hs => ?_) (fun hs => qI_i ?_)
  · rw [if_pos hs] at k
    obtain ⟨n, rfl, hn⟩ := rng (m := 7) (by omega) hs
    rw [aN_z (by omega)] at k
    have hvr := vrS_le (L := zL σ) (s := n)
    have hl : (zL σ).length ≤ 240 := hl
    have hL : LG 55 I (zL σ) := h.L
    rw [e_ver hL (by omega), show I 63 4 = z32 (eraC (zC σ) : Int) from h.M.1]
    have hN : SNP 68 I (zN σ) := h.N
    refine c_sadd (d := d + 98) hN (by omega) (by omega) he (fun I2 f2 n2 => qI_i (k I2 (fun q j g1 g2 => f2 q j (by omega) (by omega) (by omega)) ?_))
    obtain ⟨a1, a2, a3, a4, a5, a6, a7, a8, a9⟩ := h.b
    have g : ∀ q j, q ≠ 69 → q ≠ 70 → q ≠ 71 → I2 q j = I q j := f2
    refine h.setB (DX.rf (c := 0) (s := 0)) (fun q j g1 g2 g3 => f2 q j (by omega) (by omega) (by omega)) (h3.lo (f2 _ _ (by omega) (by omega) (by omega)) (fun j => f2 _ _ (by omega) (by omega) (by omega))) ⟨a1.fr (g _ _ (by omega) (by omega) (by omega)) (fun k => g _ _ (by omega) (by omega) (by omega)) (fun k => g _ _ (by omega) (by omega) (by omega)), a2.fr (fun k => g _ _ (by omega) (by omega) (by omega)),
      a3.fr (g _ _ (by omega) (by omega) (by omega)) (fun k => g _ _ (by omega) (by omega) (by omega)) (fun q j h1 _ _ => g _ _ (by omega) (by omega) (by omega)), n2, fun j hj => (g _ _ (by omega) (by omega) (by omega)).trans (a5 j hj), fun c hc => ?_, fun j hj => (g _ _ (by omega) (by omega) (by omega)).trans (a7 j hj), (g _ _ (by omega) (by omega) (by omega)).trans a8, (g _ _ (by omega) (by omega) (by omega)).trans a9⟩ rfl rfl
    have := a6 c hc
    unfold seenP at this ⊢
    rw [g (76 + 0) c (by omega) (by omega) (by omega), g (77 + 0) c (by omega) (by omega) (by omega)]
    exact this
  · rw [if_neg hs] at k
    exact k I FrM.rf h
/-- one cell of the store's own -/
theorem RC.set54 {T : Tx} {σ σ' : SS} {κ : Option SS} {j : Nat} {v : Int32} (h : RC (T, σ, κ) I D) (hj : 13 ≤ j) (e1 : zL σ' = zL σ) (e2 : zC σ' = zC σ) (e3 : zN σ' = zN σ) (e4 : zA σ' = zA σ) (e5 : zP σ' = zP σ) (e6 : zQ σ' = zQ σ) (e7 : zE σ' = zE σ) (e8 : zD σ' = zD σ) (h13 : up2 I 54 j v 54 13 = z32 (zV σ' : Int)) (h14 : up2 I 54 j v 54 14 = zH σ') : RC (T, σ', κ) (up2 I 54 j v) D := by
  have h3 : TP I T := h.2.2.1
  have g : ∀ q k, q ≠ 54 → up2 I 54 j v q k = I q k := fun q k hq => up2_ne hq
  obtain ⟨a1, a2, a3, a4, a5, a6, a7, a8, a9⟩ := h.b
  have a6 : ∀ c, c < 4 → seenP I 0 c (zE σ c) := a6
  refine h.setB (DX.rf (c := 0) (s := 0)) (fun q j g1 g2 g3 => g q j (by omega)) (h3.lo (g _ _ (by omega)) (fun j => g _ _ (by omega))) ⟨?_, ?_, ?_, ?_, ?_, ?_, ?_, h13, h14⟩ e5 e6
  · rw [e1]; exact a1.fr (g _ _ (by omega)) (fun k => g _ _ (by omega)) (fun k => g _ _ (by omega))
  · rw [e1, e2]; exact a2.fr (fun k => g _ _ (by omega))
  · rw [e2]; exact a3.fr (g _ _ (by omega)) (fun k => g _ _ (by omega)) (fun q j h1 _ _ => g _ _ (by omega))
  · rw [e3]; exact a4.fr (fun k => g _ _ (by omega)) (fun k => g _ _ (by omega)) (fun k => g _ _ (by omega))
  · rw [e4]; exact fun j hj => (g _ _ (by omega)).trans (a5 j hj)
  · rw [e7]
    intro c hc
    have := a6 c hc
    unfold seenP at this ⊢
    rw [g (76 + 0) c (by omega), g (77 + 0) c (by omega)]
    exact this
  · rw [e8]; exact fun j hj => (g _ _ (by omega)).trans (a7 j hj)
def S_every (τ : ST) (n : Int32) : ST × Int32 := if 0 ≤ n ∧ n ≤ 20 then ((tT τ, wV (tS τ) (aN n), tI τ), z32 (zV (tS τ) : Int)) else (τ, -1)
theorem p_every {τ : ST} {K : Int32 → IM → Prop} (h : RC τ I D) (n : Int32) (k : ∀ I2, FrM I I2 → RC (S_every τ n).1 I2 D → K (S_every τ n).2 I2) : CI (d + 100) 98 [vR (some 45), vI n] (mm I D) K := by
  obtain ⟨T, σ, κ⟩ := τ
  unfold S_every at k
  refine s_S_every _ ?_
  rw [e_within]
  refine br1 (fun hs => qI_i ?_) (fun hs => qI_i ?_)
  · rw [if_pos hs] at k
    obtain ⟨m, rfl, hm⟩ := rng (m := 20) (by omega) hs
    rw [aN_z (by omega)] at k
    have e13 : I 54 13 = z32 (zV σ : Int) := h.b.2.2.2.2.2.2.2.1
    have e14 : I 54 14 = zH σ := h.b.2.2.2.2.2.2.2.2
    rw [e13]
    exact k _ (fun q j g1 g2 => up2_ne (by omega)) (h.set54 (by omega) rfl rfl rfl rfl rfl rfl rfl rfl up2_eq ((up2_nj (by omega)).trans e14))
  · rw [if_neg hs] at k
    exact k I FrM.rf h
def S_see (τ : ST) (c s : Int32) : ST × Int32 := if (0 ≤ c ∧ c ≤ 3) ∧ 0 ≤ s ∧ s ≤ 7 then ((tT τ, wE (tS τ) (updF (zE (tS τ)) (aN c) (some (aN s, vrS (zL (tS τ)) (aN s)))), tI τ), z32 (vrS (zL (tS τ)) (aN s) : Int)) else (τ, -1)
def S_harmless (τ : ST) : ST × Int32 := if (tT τ).length = 0 then ((tT τ, wH (tS τ) 0, tI τ), 0) else (match allP (tT τ) (kdP (tT τ)) with
  | .inr f => (([], tS τ, tI τ), fltV f)
  | .inl m => (([], wH (tS τ) m, tI τ), bcF m))
theorem e_bc {K : Int32 → IM → Prop} {x : Int32} : CI d 127 [vI x] (mm I D) K ↔ K (bcF x) I := CI_iff (s_Integer_bitCount _ (qI_i ⟨rfl, rfl⟩))
end
