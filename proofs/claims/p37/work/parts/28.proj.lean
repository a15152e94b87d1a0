/-! Projections and policies are read. -/
def vOf {α : Type} (q : PR α) (d : α) : α := match q with
  | .inl (a, _) => a
  | .inr _ => d
theorem sq_bnd {α β : Type} {r : PS} {X : Tx → PR α} {F : α → Tx → PR β} : sq r (fun s => bnd (X s) F) = bnd (sq r X) F := by cases r <;> rfl
theorem bnd_v {α β γ : Type} (d : α) {q : PR α} {Y : Tx → PR β} {G : α → β → Tx → PR γ} : bnd q (fun v s => bnd (Y s) (G v)) = bnd (sq (aft q) Y) (G (vOf q d)) := by rcases q with ⟨a, s⟩ | m <;> rfl
theorem bnd_w {α β γ : Type} (d : α) {q : PR α} {Y : α → Tx → PR β} {G : α → β → Tx → PR γ} : bnd q (fun v s => bnd (Y v s) (G v)) = bnd (sq (aft q) (Y (vOf q d))) (G (vOf q d)) := by rcases q with ⟨a, s⟩ | m <;> rfl
theorem sq_back {α β : Type} {q : PR α} {Y : Tx → PR β} {v : β} {s : Tx} (h : sq (aft q) Y = .inl (v, s)) : ∃ a s1, q = .inl (a, s1) := by
  rcases q with ⟨a, s1⟩ | m
  · exact ⟨a, s1, rfl⟩
  · cases h
theorem bnd_inl {α β : Type} {q : PR α} {f : α → β} : aft (bnd q (fun a s => (.inl (f a, s) : PR β))) = aft q ∧ ∀ v s, bnd q (fun a s => (.inl (f a, s) : PR β)) = .inl (v, s) → ∃ a, q = .inl (a, s) ∧ v = f a := by
  rcases q with ⟨a, s⟩ | m
  · exact ⟨rfl, fun v s2 e => by cases e; exact ⟨a, rfl, rfl⟩⟩
  · exact ⟨rfl, fun v s2 e => by cases e⟩
/-- a projection as it comes new -/
def newP (I : IM) (D : DY) (a : Nat) (f : Nat) (m : Int32) (y : Nat) (c : Tx) : Prop := 159 ≤ a ∧ a + 1 < dZ D ∧ dK D a = 7 ∧ dW D a = 4 ∧ I a 0 = z32 (f : Int) ∧ I a 1 = m ∧ I a 2 = z32 (y : Int) ∧ I a 5 = 0 ∧ I a 6 = 0 ∧ dR D a 4 = some (a + 1) ∧ dK D (a + 1) = 20 ∧ dN D (a + 1) = 9 ∧ dW D (a + 1) = 3 ∧ ∃ fo, dR D a 3 = some fo ∧ isF I D fo c
theorem c_Pinit {d : Nat} {I : IM} {D : DY} {K : IM → DY → Prop} {a : Nat} {p : Option Nat} {x y z : Int32} (ha : 159 ≤ a) (hz : a < dZ D) (hk : dK D a = 7) (k : K (upr (up2 (up2 (up2 I a 0 x) a 1 y) a 2 z) (dZ D) 0) (dset (dmk (dset D a 3 p) 20 9 3) a 4 (some (dZ D)))) : AV (d + 1) 114 [vR (some a), vI x, vI y, vI z, vR p] (mm I D) K := by
  refine s_Projection_init _ _ _ _ _ ?_
  have hk2 : ∀ I : IM, pKd (mm I D) a = 7 := fun I => by rw [mmK ha]; exact hk
  simp only [tsP_iff]
  refine ⟨hk2 _, hk2 _, hk2 _, hk2 _, ?_⟩
  rw [setR_m (isFn_new ha)]
  refine can_mk 3 (show 159 ≤ dZ D by omega) ⟨?_, ?_⟩
  · rw [mmK ha]
    exact (up1_ne (show a ≠ dZ D by omega)).trans hk
  · rw [setR_m (isFn_new ha)]
    exact aV_i rfl k
theorem mk_proj {d : Nat} {I : IM} {D : DY} {K : IM → DY → Prop} {x y z : Int32} {fo : Option Nat} (hz : 159 ≤ dZ D)
    (k : ∀ I2 D2, DX XL D D2 2 16 → dZ D2 = dZ D + 2 → (∀ a j, a < dZ D → I2 a j = I a j) → dK D2 (dZ D) = 7 → dW D2 (dZ D) = 4 → I2 (dZ D) 0 = x → I2 (dZ D) 1 = y → I2 (dZ D) 2 = z → I2 (dZ D) 5 = 0 → I2 (dZ D) 6 = 0 → dR D2 (dZ D) 3 = fo → dR D2 (dZ D) 4 = some (dZ D + 1) → dK D2 (dZ D + 1) = 20 → dN D2 (dZ D + 1) = 9 → dW D2 (dZ D + 1) = 3 → K I2 D2) :
    CAN (mkN (mm I D) 7 7) (fun I6 D3 => tsP (pKd (mm I6 D3) (dZ D) = 7) (AV (d + 1) 114 [vR (some (dZ D)), vI x, vI y, vI z, vR fo] (mm I6 D3) K)) := by
  refine can_mk 4 hz (tsP_i ?_ (c_Pinit hz (show dZ D < dZ D + 1 by omega) up1_eq ?_))
  · rw [mmK hz]
    exact up1_eq
  · simp only [dZ_m, dZ_s]
    have hx : DX XL D (dset (dmk (dset (dmk D 7 7 4) (dZ D) 3 fo) 20 9 3) (dZ D) 4 (some (dZ D + 1))) 2 16 := (((DX.mk (X := XL) (D := D) (c := 7) (n := 7) (w := 4)).setN (a := dZ D) (j := 3) (v := fo) (Nat.le_refl _)).tr (DX.mk (c := 20) (n := 9) (w := 3))).setN (a := dZ D) (j := 4) (v := some (dZ D + 1)) (Nat.le_refl _)
    refine k _ _ hx rfl (fun a j ha => ?_) ?_ ?_ ?_ ?_ ?_ ?_ ?_ ?_ ?_ ?_ ?_ ?_
    · rw [upr_ne (by omega), up2_ne (by omega), up2_ne (by omega), up2_ne (by omega), upr_ne (by omega)]
    · exact (up1_ne (show dZ D ≠ dZ D + 1 by omega)).trans up1_eq
    · exact (up1_ne (show dZ D ≠ dZ D + 1 by omega)).trans up1_eq
    · rw [upr_ne (by omega), up2_nj (by omega), up2_nj (by omega), up2_eq]
    · rw [upr_ne (by omega), up2_nj (by omega), up2_eq]
    · rw [upr_ne (by omega), up2_eq]
    · rw [upr_ne (by omega), up2_nj (by omega), up2_nj (by omega), up2_nj (by omega), upr_eq]
    · rw [upr_ne (by omega), up2_nj (by omega), up2_nj (by omega), up2_nj (by omega), upr_eq]
    · exact (up2_nj (show (3 : Nat) ≠ 4 by omega)).trans ((upr_ne (show dZ D ≠ dZ D + 1 by omega)).trans up2_eq)
    · exact up2_eq
    · exact up1_eq
    · exact up1_eq
    · exact up1_eq
theorem c_projection {d : Nat} {I : IM} {D : DY} {K : Option Nat → IM → DY → Prop} {T : Tx} {r : PS} (hd : 80 ≤ d) (hz : 159 ≤ dZ D) (hS : SOK I) (h : PC I T r)
    (k : ∀ a I2 D2, DX XL D D2 8 245 → PFa I I2 D → PC I2 T (aft (sq r pjP)) → dZ D ≤ a → (∀ x s, sq r pjP = .inl (x, s) → newP I2 D2 a x.1 x.2.1 x.2.2.1 x.2.2.2 ∧ x.1 < 6 ∧ x.2.2.1 < 3) → K (some a) I2 D2) :
    AR (d + 1) 111 [vR (some 46)] (mm I D) K := by
  obtain ⟨d, rfl⟩ : ∃ d', d = d' + 7 := ⟨d - 7, by omega⟩
  refine s_Tape_projection ?_
  refine c_word (d := d + 1) (j := 11) hS (by omega) w_fold (by decide +kernel) h (fun x1 I1 f1 P1 v1 _ => ?_)
  refine c_take (d := d + 6) P1 (by decide) (fun I2 f2 P2 => ?_)
  have g2 := f1.tr f2
  refine c_word (d := d + 1) (j := 12) (hS.fr g2) (by omega) w_of (by decide +kernel) P2 (fun x3 I3 f3 P3 v3 _ => ?_)
  refine c_take (d := d + 6) P3 (by decide) (fun I4 f4 P4 => ?_)
  have g4 := (g2.tr f3).tr f4
  refine c_kinds (d := d) (hS.fr g4) P4 (fun x5 I5 f5 P5 v5 => ?_)
  refine c_take (d := d + 6) P5 (by decide) (fun I6 f6 P6 => ?_)
  have g6 := (g4.tr f5).tr f6
  refine c_word (d := d + 1) (j := 15) (hS.fr g6) (by omega) w_by (by decide +kernel) P6 (fun x7 I7 f7 P7 v7 _ => ?_)
  refine c_take (d := d + 6) P7 (by decide) (fun I8 f8 P8 => ?_)
  have g8 := (g6.tr f7).tr f8
  refine c_word (d := d + 1) (j := 16) (hS.fr g8) (by omega) w_key (by decide +kernel) P8 (fun x9 I9 f9 P9 v9 _ => ?_)
  have g9 := g8.tr f9
  have ep : sq r pjP = bnd (sq r (wdP foldW)) (fun f s => bnd (tkP 32 s) (fun _ s => bnd (wdP [[111, 102]] s) (fun _ s => bnd (tkP 32 s) (fun _ s => bnd (kdP s) (fun m s => bnd (tkP 32 s) (fun _ s => bnd (wdP [[98, 121]] s) (fun _ s => bnd (tkP 32 s) (fun _ s => bnd (wdP keyW s) (fun y s => bnd (pjI s) (fun c s => .inl ((f, m, y, c), s))))))))))) := by cases r <;> rfl
  rw [bnd_v 0, bnd_v (), bnd_v 0, bnd_v (), bnd_v 0, bnd_v (), bnd_v 0, bnd_v (), bnd_v 0] at ep
  generalize hq1 : sq r (wdP foldW) = q1 at *
  generalize hq2 : sq (aft q1) (tkP 32) = q2 at *
  generalize hq3 : sq (aft q2) (wdP [[111, 102]]) = q3 at *
  generalize hq4 : sq (aft q3) (tkP 32) = q4 at *
  generalize hq5 : sq (aft q4) kdP = q5 at *
  generalize hq6 : sq (aft q5) (tkP 32) = q6 at *
  generalize hq7 : sq (aft q6) (wdP [[98, 121]]) = q7 at *
  generalize hq8 : sq (aft q7) (tkP 32) = q8 at *
  generalize hq9 : sq (aft q8) (wdP keyW) = q9 at *
  obtain ⟨ea, eb⟩ := bnd_inl (q := sq (aft q9) pjI) (f := fun c => (vOf q1 0, vOf q5 0, vOf q9 0, c))
  rw [← ep] at ea eb
  have hback : ∀ {c : Tx} {s : Tx}, sq (aft q9) pjI = .inl (c, s) → x1 = z32 ((vOf q1 0 : Nat) : Int) ∧ x5 = vOf q5 0 ∧ x9 = z32 ((vOf q9 0 : Nat) : Int) ∧ vOf q1 0 < 6 ∧ vOf q9 0 < 3 := by
    intro c s e
    obtain ⟨a9, s9, e9⟩ := sq_back e
    obtain ⟨a8, s8, e8⟩ := sq_back (hq9.trans e9)
    obtain ⟨a7, s7, e7⟩ := sq_back (hq8.trans e8)
    obtain ⟨a6, s6, e6⟩ := sq_back (hq7.trans e7)
    obtain ⟨a5, s5, e5⟩ := sq_back (hq6.trans e6)
    obtain ⟨a4, s4, e4⟩ := sq_back (hq5.trans e5)
    obtain ⟨a3, s3, e3⟩ := sq_back (hq4.trans e4)
    obtain ⟨a2, s2, e2⟩ := sq_back (hq3.trans e3)
    obtain ⟨a1, s1, e1⟩ := sq_back (hq2.trans e2)
    have h9 := hq9.trans e9
    rw [e8] at h9
    have h1 := hq1.trans e1
    refine ⟨by rw [v1 a1 s1 e1, e1]; rfl, by rw [v5 a5 s5 e5, e5]; rfl, by rw [v9 a9 s9 e9, e9]; rfl, ?_, ?_⟩
    · rw [e1]
      cases r with
      | inl s0 => exact wdP_lt (ws := foldW) h1
      | inr m => cases h1
    · rw [e9]
      exact wdP_lt (ws := keyW) h9
  refine c_always (d := d + 5) hz (fun I10 D1 h1 h2 h3 h4 => ?_)
  have hS10 : SOK I10 := SOK.mono (hS.fr g9) (fun a ha => funext fun j => h3 a j (by omega))
  have P10 : PC I10 T (aft q9) := P9.fa (D := D) (fun a k ha => h3 a k (by omega))
  have g10 : PFa I I10 D := fun a j ha hb hc => (h3 a j ha).trans (g9.x a j hb hc)
  rw [e_peek P10]
  refine brP_i (fun z => ?_) (fun z => ?_)
  · have epi : sq (aft q9) pjI = (match aft q9 with
        | .inl s => .inl ([1], s)
        | .inr m => .inr m) := by
      revert z
      generalize aft q9 = r9
      intro z
      rcases r9 with (_ | ⟨x, t⟩) | m
      · rfl
      · have z : ¬ x = 32 := z
        exact if_neg z
      · rfl
    refine mk_proj (d := d + 6) (by omega) (fun I2 D2 k1 k2 k3 k4 k5 k6 k7 k8 k9 k10 k11 k12 k13 k14 k15 => aR_i rfl (k _ _ _ ((h1.tr k1).le (by omega) (by omega)) (g10.tr h1 (fun a j ha _ _ => k3 a j ha)) ?_ h1.1 (fun x s e => ?_)))
    · rw [ea, epi]
      have := P10.fa (D := D) (fun a k ha => k3 a k (by omega))
      revert this
      cases aft q9 <;> exact fun this => this
    · obtain ⟨c, e1, rfl⟩ := eb x s e
      obtain ⟨b1, b2, b3, b4, b5⟩ := hback e1
      have ec : c = [1] := by
        rw [epi] at e1
        revert e1
        cases aft q9 <;> intro e1 <;> cases e1
        rfl
      subst ec
      exact ⟨⟨by omega, by omega, k4, k5, k6.trans b1, k7.trans b2, k8.trans b3, k9, k10, k12, k13, k14, k15, dZ D + 1, k11, h4.mono k1 XLn (fun a j _ ha _ => k3 a j ha)⟩, b4, b5⟩
  · obtain ⟨t, hr9⟩ := pk_cons (Classical.not_not.mp z) (by decide)
    rw [hr9] at P10
    have fn : PFr I10 (up2 I10 46 5 (I10 46 5 + 1)) := PFr.up (by omega)
    have epi : sq (aft q9) pjI = bnd (wdP [[105, 102]] t) (fun _ s => bnd (tkP 32 s) (fun _ s => cP absV 0 s)) := by
      rw [hr9]
      show (if (32 : Int32) = 32 then bnd (wdP [[105, 102]] t) (fun _ s => bnd (tkP 32 s) (fun _ s => cP absV 0 s)) else .inl ([1], 32 :: t)) = _
      rw [if_pos rfl]
    have epj : sq (aft q9) pjI = sq (aft (sq (aft (wdP [[105, 102]] t)) (tkP 32))) (cP absV 0) := by
      rw [epi]
      rcases wdP [[105, 102]] t with ⟨u, s1⟩ | m
      · show bnd (tkP 32 s1) _ = sq (aft (tkP 32 s1)) _
        rcases tkP 32 s1 with ⟨u, s2⟩ | m <;> rfl
      · rfl
    refine c_word (d := d + 1) (j := 17) (hS10.fr fn) (by omega) w_if (by decide +kernel) P10.next (fun x13 I11 f11 P11 _ _ => ?_)
    refine c_take (d := d + 6) P11 (by decide) (fun I12 f12 P12 => ?_)
    have g12 := (fn.tr f11).tr f12
    refine c_formula (d := d + 6) (jl := 0) (op := 0) (by omega) (by omega) (Nat.le_trans hz h1.1) (hS10.fr g12) (by omega) absV_ok.1 absV_ok.2 P12 (fun I13 D4 m1 m2 m3 m4 m5 m6 => ?_)
    rw [sq_inl] at m5 m6
    rw [← epj] at m5 m6
    have hz1 := h1.1
    have g13 : PFa I10 I13 D1 := fun a j ha hb hc => (m4 a j ha hb hc).trans (g12.x a j hb hc)
    refine mk_proj (d := d + 6) (by omega) (fun I2 D2 k1 k2 k3 k4 k5 k6 k7 k8 k9 k10 k11 k12 k13 k14 k15 => aR_i rfl (k _ _ _ (((h1.tr m1).tr k1).le (by omega) (by omega)) ((g10.tr h1 g13).tr (h1.tr m1) (fun a j ha _ _ => k3 a j ha)) ?_ (by omega) (fun x s e => ?_)))
    · rw [ea]
      exact m5.fa (D := D) (fun a k ha => k3 a k (by omega))
    · obtain ⟨c, e1, rfl⟩ := eb x s e
      obtain ⟨b1, b2, b3, b4, b5⟩ := hback e1
      exact ⟨⟨by omega, by omega, k4, k5, k6.trans b1, k7.trans b2, k8.trans b3, k9, k10, k12, k13, k14, k15, dZ D1, k11, (m6 c s e1).mono k1 XLn (fun a j _ ha _ => k3 a j ha)⟩, b4, b5⟩
/-- a policy as it comes new -/
def newQ (I : IM) (D : DY) (a : Nat) (m : Int32) (c : Tx) (k : Cm) : Prop := 159 ≤ a ∧ a < dZ D ∧ dK D a = 6 ∧ dW D a = 5 ∧ I a 0 = m ∧ I a 3 = 0 ∧ I a 4 = 0 ∧ I a 5 = 0 ∧ (∃ fo, dR D a 1 = some fo ∧ isF I D fo c) ∧ ∃ co, dR D a 2 = some co ∧ isC I D co k
theorem c_Qinit {d : Nat} {I : IM} {D : DY} {K : IM → DY → Prop} {a : Nat} {x : Int32} {p q : Option Nat} (ha : 159 ≤ a) (hk : dK D a = 6) (k : K (up2 I a 0 x) (dset (dset D a 1 p) a 2 q)) : AV (d + 1) 134 [vR (some a), vI x, vR p, vR q] (mm I D) K := by
  refine s_Policy_init _ _ _ _ ?_
  have hk2 : ∀ (I : IM) (D2 : DY), dK D2 = dK D → pKd (mm I D2) a = 6 := fun I D2 e => by rw [mmK ha, e]; exact hk
  simp only [setR_m (isFn_new ha), tsP_iff]
  exact ⟨hk2 _ _ rfl, hk2 _ _ rfl, hk2 _ _ rfl, aV_i rfl k⟩
theorem pol_tail {d : Nat} {I : IM} {D : DY} {K : Option Nat → IM → DY → Prop} {T : Tx} {r : PS} {x : Int32} {fo : Option Nat} (hd : 80 ≤ d) (hz : 159 ≤ dZ D) (hS : SOK I) (h : PC I T r)
    (k : ∀ I2 D2, DX XL D D2 5 204 → PFa I I2 D → PC I2 T (aft (sq r (cmP true))) → 159 ≤ dZ D → dZ D < dZ D2 → dK D2 (dZ D) = 6 → dW D2 (dZ D) = 5 → I2 (dZ D) 0 = x → I2 (dZ D) 3 = 0 → I2 (dZ D) 4 = 0 → I2 (dZ D) 5 = 0 → dR D2 (dZ D) 1 = fo → (∀ cm s, sq r (cmP true) = .inl (cm, s) → ∃ co, dR D2 (dZ D) 2 = some co ∧ isC I2 D2 co cm) → K (some (dZ D)) I2 D2) :
    CAN (mkN (mm I D) 6 6) (fun I8 D2 => AR (d + 1) 17 [vR (some 46), vI 1] (mm I8 D2) (fun x8 I9 D3 => tsP (pKd (mm I9 D3) (dZ D) = 6) (AV (d + 1) 134 [vR (some (dZ D)), vI x, vR fo, vR x8] (mm I9 D3) (fun I10 D4 => aR K (some (vR (some (dZ D)))) (mm I10 D4))))) := by
  refine can_mk 5 hz ?_
  have hz1 : 159 ≤ dZ (dmk D 6 6 5) := by rw [dZ_m]; omega
  have hS1 : SOK (upr I (dZ D) 0) := SOK.mono hS (fun a ha => funext fun j => upr_ne (by omega))
  have hP1 : PC (upr I (dZ D) 0) T r := h.fa (D := D) (fun a j ha => upr_ne (by omega))
  refine c_command (d := d) (pol := true) hd hz1 hS1 hP1 (fun a I3 D3 h1 h2 h3 h4 h5 h6 h7 h8 => ?_)
  obtain ⟨e1, e2, e3, e4⟩ := h1.2.2.2 (dZ D) (by rw [dZ_m]; omega)
  have ek : dK D3 (dZ D) = 6 := e1.trans up1_eq
  refine tsP_i (by rw [mmK hz]; exact ek) (c_Qinit hz ek (aR_i rfl ?_))
  rw [dZ_m] at h5
  have o3 : ∀ j, I3 (dZ D) j = 0 := fun j => (h2 (dZ D) j (by rw [dZ_m]; omega) (by omega) (fun e => by omega)).trans upr_eq
  have hx : DX XL D (dset (dset D3 (dZ D) 1 fo) (dZ D) 2 (some a)) 5 204 := ((((DX.mk (X := XL) (D := D) (c := 6) (n := 6) (w := 5)).tr h1).setN (a := dZ D) (j := 1) (v := fo) (Nat.le_refl _)).setN (a := dZ D) (j := 2) (v := some a) (Nat.le_refl _)).le (by omega) (by omega)
  refine k _ _ hx (fun b j hb hc he => ?_) (h3.fa (D := D) (fun b j hb => up2_ne (by omega))) hz ?_ ek (e3.trans up1_eq) up2_eq ?_ ?_ ?_ ?_ (fun cm s e => ⟨a, up2_eq, ?_⟩)
  · rw [up2_ne (by omega)]
    exact (h2 b j (by rw [dZ_m]; omega) hc he).trans (upr_ne (by omega))
  · show dZ D < dZ D3
    omega
  · rw [up2_nj (by omega)]
    exact o3 3
  · rw [up2_nj (by omega)]
    exact o3 4
  · rw [up2_nj (by omega)]
    exact o3 5
  · exact (up2_nj (show (1 : Nat) ≠ 2 by omega)).trans up2_eq
  · have hc := h8 cm s e
    obtain ⟨c1, c2, c3, c4, c5, c6, c7, c8⟩ := hc
    have hne : a ≠ dZ D := by omega
    have him : IMF I3 (up2 I3 (dZ D) 0 x) D3 := fun b j hb hb2 hb3 => up2_ne (fun e => by rw [e] at hb3; rw [e3.trans up1_eq] at hb3; omega)
    have hnR : ∀ b j, b ≠ dZ D → dR (dset (dset D3 (dZ D) 1 fo) (dZ D) 2 (some a)) b j = dR D3 b j := fun b j hb => (up2_ne hb).trans (up2_ne hb)
    refine ⟨c1, c2, c3, c4, (him a 0 c1 c2 c4).trans c5, (him a 1 c1 c2 c4).trans c6, (him a 2 c1 c2 c4).trans c7, ?_⟩
    rcases c8 with ⟨q1, q2⟩ | ⟨co, f, q1, q2, q3⟩
    · exact Or.inl ⟨q1, (hnR a 3 hne).trans q2⟩
    · refine Or.inr ⟨co, f, q1, (hnR a 3 hne).trans q2, ?_⟩
      obtain ⟨f1, f2, f3, f4, ca, sa, r1, r2, r3, r4, r5⟩ := q3
      have hfne : f ≠ dZ D := fun e => by rw [e, ek] at f3; omega
      exact ⟨f1, f2, f3, f4, ca, sa, (hnR f 0 hfne).trans r1, (hnR f 1 hfne).trans r2, r3, r4, fun q hq => (him ca q r3.1 r3.2.1 r3.2.2.2.2).trans (r5 q hq)⟩
theorem c_policyText {d : Nat} {I : IM} {D : DY} {K : Option Nat → IM → DY → Prop} {T : Tx} {r : PS} (hd : 90 ≤ d) (hz : 159 ≤ dZ D) (hS : SOK I) (h : PC I T r)
    (k : ∀ a I2 D2, DX XL D D2 11 433 → PFa I I2 D → PC I2 T (aft (sq r plP)) → dZ D ≤ a → (∀ x s, sq r plP = .inl (x, s) → newQ I2 D2 a x.1 x.2.1 x.2.2) → K (some a) I2 D2) :
    AR (d + 1) 133 [vR (some 46)] (mm I D) K := by
  obtain ⟨d, rfl⟩ : ∃ d', d = d' + 7 := ⟨d - 7, by omega⟩
  refine s_Tape_policyText ?_
  refine c_word (d := d + 1) (j := 18) hS (by omega) w_on (by decide +kernel) h (fun x1 I1 f1 P1 v1 _ => ?_)
  refine c_take (d := d + 6) P1 (by decide) (fun I2 f2 P2 => ?_)
  have g2 := f1.tr f2
  refine c_kinds (d := d) (hS.fr g2) P2 (fun x3 I3 f3 P3 v3 => ?_)
  refine c_take (d := d + 6) P3 (by decide) (fun I4 f4 P4 => ?_)
  have g4 := (g2.tr f3).tr f4
  refine c_always (d := d + 5) hz (fun I5 D1 h1 h2 h3 h4 => ?_)
  have P5 : PC I5 T _ := P4.fa (D := D) (fun a k ha => h3 a k (by omega))
  have hS5 : SOK I5 := SOK.mono (hS.fr g4) (fun a ha => funext fun j => h3 a j (by omega))
  refine c_word (d := d + 1) (j := 19) hS5 (by omega) w_ifdo (by decide +kernel) P5 (fun x6 I6 f6 P6 v6 u6 => ?_)
  have g6 : PFa I I6 D := fun a j ha hb hc => (f6.x a j hb hc).trans ((h3 a j ha).trans (g4.x a j hb hc))
  have hz1 := h1.1
  have ep : sq r plP = bnd (sq r (wdP [[111, 110]])) (fun _ s => bnd (tkP 32 s) (fun _ s => bnd (kdP s) (fun m s => bnd (tkP 32 s) (fun _ s => bnd (wdP [[105, 102], [100, 111]] s) (fun w s => bnd (plI w s) (fun c s => bnd (tkP 32 s) (fun _ s => bnd (cmP true s) (fun k s => .inl ((m, c, k), s))))))))) := by cases r <;> rfl
  rw [bnd_v 0, bnd_v (), bnd_v 0, bnd_v (), bnd_w 0, bnd_v [], bnd_v ()] at ep
  generalize hq1 : sq r (wdP [[111, 110]]) = q1 at *
  generalize hq2 : sq (aft q1) (tkP 32) = q2 at *
  generalize hq3 : sq (aft q2) kdP = q3 at *
  generalize hq4 : sq (aft q3) (tkP 32) = q4 at *
  generalize hq5 : sq (aft q4) (wdP [[105, 102], [100, 111]]) = q5 at *
  obtain ⟨ea, eb⟩ := bnd_inl (q := sq (aft (sq (aft (sq (aft q5) (plI (vOf q5 0)))) (tkP 32))) (cmP true)) (f := fun k => (vOf q3 0, vOf (sq (aft q5) (plI (vOf q5 0))) [], k))
  rw [← ep] at ea eb
  have hback : ∀ {c : Cm} {s : Tx}, sq (aft (sq (aft (sq (aft q5) (plI (vOf q5 0)))) (tkP 32))) (cmP true) = .inl (c, s) → x3 = vOf q3 0 ∧ ∃ c0 s0, sq (aft q5) (plI (vOf q5 0)) = .inl (c0, s0) := by
    intro c s e
    obtain ⟨a7, s7, e7⟩ := sq_back e
    obtain ⟨a6, s6, e6⟩ := sq_back e7
    obtain ⟨a5, s5, e5⟩ := sq_back e6
    obtain ⟨a4, s4, e4⟩ := sq_back (hq5.trans e5)
    obtain ⟨a3, s3, e3⟩ := sq_back (hq4.trans e4)
    exact ⟨by rw [v3 a3 s3 e3, e3]; rfl, a6, s6, e6⟩
  have h0 : (x6 = 0) ↔ ∃ s, q5 = .inl (0, s) := by
    rcases q5 with ⟨w, s⟩ | m
    · have e := v6 w s rfl
      have hw : w < 2 := by
        have := hq5
        revert this
        cases aft q4 with
        | inl s0 => exact fun this => wdP_lt (ws := [[105, 102], [100, 111]]) this
        | inr m => exact fun this => by cases this
      rw [e]
      constructor
      · intro z
        have z : z32 (w : Int) = z32 0 := z
        rw [z32_inj] at z <;> try omega
        obtain rfl : w = 0 := by omega
        exact ⟨s, rfl⟩
      · rintro ⟨s2, e2⟩
        cases e2
        rfl
    · have e := u6 (fun q s e => by cases e)
      rw [e]
      exact ⟨fun z => absurd z (by decide), fun ⟨s, e⟩ => by cases e⟩
  refine brP_i (fun z => ?_) (fun z => ?_)
  · have epl : sq (aft q5) (plI (vOf q5 0)) = (match aft q5 with
        | .inl s => .inl ([1], s)
        | .inr m => .inr m) := by
      rcases q5 with ⟨w, s⟩ | m
      · have hw : w ≠ 0 := fun e => z (h0.mpr ⟨s, by rw [e]⟩)
        exact if_neg hw
      · rfl
    have P6' : PC I6 T (aft (sq (aft q5) (plI (vOf q5 0)))) := by
      rw [epl]
      revert P6
      cases aft q5 <;> exact fun P6 => P6
    refine c_take (d := d + 6) P6' (by decide) (fun I7 f7 P7 => ?_)
    refine pol_tail (d := d + 6) (by omega) (by omega) ((hS5.fr f6).fr f7) P7 (fun I8 D2 k1 k2 k3 k4 k5 k6 k7 k8 k9 k10 k11 k12 k13 => k _ _ _ ((h1.tr k1).le (by omega) (by omega)) (g6.tr h1 (fun a j ha hb hc => (k2 a j ha hb hc).trans (f7.x a j hb hc))) ?_ (by omega) (fun x s e => ?_))
    · rw [ea]
      exact k3
    · obtain ⟨c, e1, rfl⟩ := eb x s e
      obtain ⟨b1, c0, s0, b2⟩ := hback e1
      have ec : c0 = [1] := by
        rw [epl] at b2
        revert b2
        cases aft q5 <;> intro b2 <;> cases b2
        rfl
      subst ec
      have him : IMF I5 I8 D1 := fun a j h1' h2' _ => (k2 a j h2' (by omega) (fun e => by omega)).trans ((f7 a j (fun e => by omega)).trans (f6 a j (fun e => by omega)))
      refine ⟨k4, k5, k6, k7, k8.trans b1, k9, k10, k11, ⟨dZ D + 1, k12, ?_⟩, k13 c s e1⟩
      show isF I8 D2 (dZ D + 1) (vOf (sq (aft q5) (plI (vOf q5 0))) [])
      rw [b2]
      exact h4.mono k1 XLn him
  · obtain ⟨s5, e5⟩ := h0.mp (Classical.not_not.mp z)
    subst e5
    have epl : sq (aft (.inl (0, s5) : PR Nat)) (plI (vOf (.inl (0, s5)) 0)) = bnd (tkP 32 s5) (fun _ s => bnd (cP absV 0 s) (fun c s => bnd (tkP 32 s) (fun _ s => bnd (wdP [[100, 111]] s) (fun _ s => .inl (c, s))))) := by
      show (if (0 : Nat) = 0 then bnd (tkP 32 s5) (fun _ s => bnd (cP absV 0 s) (fun c s => bnd (tkP 32 s) (fun _ s => bnd (wdP [[100, 111]] s) (fun _ s => .inl (c, s))))) else .inl ([1], s5)) = _
      rw [if_pos rfl]
    rw [bnd_v (), bnd_v [], bnd_v ()] at epl
    obtain ⟨la, lb⟩ := bnd_inl (q := sq (aft (sq (aft (sq (aft (tkP 32 s5)) (cP absV 0))) (tkP 32))) (wdP [[100, 111]])) (f := fun _ => vOf (sq (aft (tkP 32 s5)) (cP absV 0)) [])
    rw [← epl] at la lb
    refine c_take (d := d + 6) P6 (by decide) (fun I7 f7 P7 => ?_)
    have P7 : PC I7 T (aft (tkP 32 s5)) := P7
    refine c_formula (d := d + 6) (jl := 0) (op := 0) (by omega) (by omega) (by omega) ((hS5.fr f6).fr f7) (by omega) absV_ok.1 absV_ok.2 P7 (fun I8 D4 m1 m2 m3 m4 m5 m6 => ?_)
    have hS8 : SOK I8 := ((hS5.fr f6).fr f7).fa m4 (by omega)
    refine c_take (d := d + 6) m5 (by decide) (fun I9 f9 P9 => ?_)
    refine c_word (d := d + 1) (j := 20) (hS8.fr f9) (by omega) w_do (by decide +kernel) P9 (fun x13 I10 f10 P10 _ _ => ?_)
    rw [← la] at P10
    refine c_take (d := d + 6) P10 (by decide) (fun I11 f11 P11 => ?_)
    have g11 : PFr I8 I11 := (f9.tr f10).tr f11
    have hm1 := m1.1
    refine pol_tail (d := d + 6) (by omega) (by omega) (hS8.fr g11) P11 (fun I12 D2 k1 k2 k3 k4 k5 k6 k7 k8 k9 k10 k11 k12 k13 => k _ _ _ (((h1.tr m1).tr k1).le (by omega) (by omega)) ?_ ?_ (by omega) (fun x s e => ?_))
    · have g8 : PFa I I8 D := g6.tr h1 (fun a j ha hb hc => (m4 a j ha hb hc).trans (f7.x a j hb hc))
      exact g8.tr (h1.tr m1) (fun a j ha hb hc => (k2 a j ha hb hc).trans (g11.x a j hb hc))
    · rw [ea]
      exact k3
    · obtain ⟨c, e1, rfl⟩ := eb x s e
      obtain ⟨b1, c0, s0, b2⟩ := hback e1
      obtain ⟨u1, b3, b4⟩ := lb c0 s0 b2
      obtain ⟨u2, s2, b5⟩ := sq_back b3
      obtain ⟨c3, s3, b6⟩ := sq_back b5
      have him : IMF I8 I12 D4 := fun a j h1' h2' _ => (k2 a j h2' (by omega) (fun e => by omega)).trans (g11 a j (fun e => by omega))
      refine ⟨k4, k5, k6, k7, k8.trans b1, k9, k10, k11, ⟨dZ D1, k12, ?_⟩, k13 c s e1⟩
      show isF I12 D2 (dZ D1) (vOf (sq (aft (.inl (0, s5) : PR Nat)) (plI (vOf (.inl (0, s5)) 0))) [])
      rw [b2]
      show isF I12 D2 (dZ D1) c0
      rw [b4, b6]
      exact (m6 c3 s3 b6).mono k1 XLn him
