/-! Asking with a number, by clients, by batches. -/
theorem carS_pos {σ : SS} {s : Nat} {cm : Cm} {amt : Int32} (h : 0 < (carS σ s cm amt).2) : (carS σ s cm amt).2 = z32 (vrS (zL (carS σ s cm amt).1) s : Int) := by
  unfold carS at h ⊢
  by_cases q : refV (stF (zC σ) (zL σ)) s cm.1 cm.2.2.1 amt = 0
  · rw [if_pos q] at h ⊢
    by_cases q2 : (zL σ).length + evC cm ≤ 240
    · rw [if_pos q2]
      rfl
    · rw [if_neg q2] at h
      dsimp only at h
      exact absurd h (by decide)
  · rw [if_neg q] at h
    rcases refV_b (f := stF (zC σ) (zL σ)) (s := s) (k := cm.1) (t := cm.2.2.1) (amt := amt) with e | e | e | e | e | e
    · exact absurd e q
    all_goals
      rw [e] at h
      dsimp only at h
      exact absurd h (by decide)
/-- what asking may change: as MF, the numbers, what was seen -/
def MX (I I2 : IM) : Prop := ∀ q k, ¬ (q = 55 ∧ k = 4) → q ≠ 56 → q ≠ 57 → q ≠ 60 → q ≠ 69 → q ≠ 70 → q ≠ 71 → q ≠ 78 → q ≠ 72 → q ≠ 77 → I2 q k = I q k
theorem MF.x {I I2 : IM} (h : MF I I2) : MX I I2 := fun q k a1 a2 a3 a4 a5 a6 a7 a8 _ _ => h q k a1 a2 a3 a4 a5 a6 a7 a8
theorem MX.tr {I I2 I3 : IM} (h : MX I I2) (h2 : MX I2 I3) : MX I I3 := fun q k a1 a2 a3 a4 a5 a6 a7 a8 a9 a10 => (h2 q k a1 a2 a3 a4 a5 a6 a7 a8 a9 a10).trans (h q k a1 a2 a3 a4 a5 a6 a7 a8 a9 a10)
theorem MX.at {I I2 : IM} (h : MX I I2) {q k : Nat} (hq : q < 55 ∨ 79 ≤ q) : I2 q k = I q k := h q k (by omega) (by omega) (by omega) (by omega) (by omega) (by omega) (by omega) (by omega) (by omega) (by omega)
theorem MX.im {I I2 : IM} {D : DY} (h : MX I I2) : IMF I I2 D := fun a k h1 _ _ => h.at (by omega)
theorem ask_core {d : Nat} {I : IM} {D : DY} {KK : Int32 → IM → Prop} {Kf : IM → Prop} {σ : SS} {s a : Nat} {cm : Cm} {ex : Int32} (h : RB 0 σ I D) (hs : s < 8) (hc : isC I D a cm) (ok : okCm cm) (hv : zV σ ≤ 20)
    (k1 : ex = -1 ∨ ex = z32 (vrS (zL σ) s : Int) → ∀ I2, MF I I2 → RB 0 (carS σ s cm (z32 cm.2.1)).1 I2 D → KK (carS σ s cm (z32 cm.2.1)).2 I2) (k2 : ¬ (ex = -1 ∨ ex = z32 (vrS (zL σ) s : Int)) → Kf (up2 I 78 2 (I 78 2 + 1))) :
    brP (ex = (-1)) (onR False (some a) (fun a1 => tsP (pKd (mm I D) a1 = 2) (CI (d + 4) 49 [vR (some 54), vI (z32 (s : Int)), vR (some a), vI (I a1 1)] (mm I D) KK)))
      (CI (d + 4) 48 [vR (some 55), vI (z32 (s : Int))] (mm I D) (fun x2 I2 => brP (ex = x2) (onR False (some a) (fun a2 => tsP (pKd (mm I2 D) a2 = 2) (CI (d + 4) 49 [vR (some 54), vI (z32 (s : Int)), vR (some a), vI (I2 a2 1)] (mm I2 D) KK))) (CV (d + 4) 47 [vR (some 54), vI 2] (mm I2 D) Kf))) := by
  have hk2 : ∀ J, pKd (mm J D) a = 2 := fun J => (mmK hc.1).trans hc.2.2.1
  have e1 : I a 1 = z32 cm.2.1 := hc.2.2.2.2.2.1
  have a1 : LG 55 I (zL σ) := h.1
  refine brP_i (fun q => onR_i rfl (tsP_i (hk2 _) ?_)) (fun q => ?_)
  · rw [e1]
    exact c_carry (d := d) h hs hc ok hv (k1 (Or.inl q))
  · rw [e_ver a1 hs]
    refine brP_i (fun q2 => onR_i rfl (tsP_i (hk2 _) ?_)) (fun q2 => ?_)
    · rw [e1]
      exact c_carry (d := d) h hs hc ok hv (k1 (Or.inr q2))
    · rw [e_tell (k := 2) (lit := 2) (by omega) rfl]
      exact k2 (fun e => e.elim q q2)
def askS (σ : SS) (s : Nat) (ex : Int32) (n : Nat) (cm : Cm) : SS × Int32 :=
  if 0 < n ∧ 0 < zA σ n then (telS σ 1, zA σ n) else if ex = -1 ∨ ex = z32 (vrS (zL σ) s : Int) then
    ((if 0 < n ∧ 0 < (carS σ s cm (z32 cm.2.1)).2 then wA (carS σ s cm (z32 cm.2.1)).1 (updF (zA (carS σ s cm (z32 cm.2.1)).1) n (carS σ s cm (z32 cm.2.1)).2) else (carS σ s cm (z32 cm.2.1)).1), (carS σ s cm (z32 cm.2.1)).2)
  else (telS σ 2, -4)
theorem RB.setA {σ : SS} {I : IM} {D : DY} {n : Nat} {v : Int32} (h : RB 0 σ I D) (hn : n < 1000) : RB 0 (wA σ (updF (zA σ) n v)) (up2 I 72 n v) D := by
  obtain ⟨a1, a2, a3, a4, a5, a6, a7, a8, a9⟩ := h
  refine ⟨a1.fr (up2_ne (by omega)) (fun k => up2_ne (by omega)) (fun k => up2_ne (by omega)), a2.fr (fun k => up2_ne (by omega)), a3.fr (up2_ne (by omega)) (fun k => up2_ne (by omega)) (fun a k h1 _ _ => up2_ne (by omega)), a4.fr (fun k => up2_ne (by omega)) (fun k => up2_ne (by omega)) (fun k => up2_ne (by omega)),
    fun j hj => ?_, fun c hc => ?_, fun j hj => (up2_ne (by omega)).trans (a7 j hj), (up2_ne (by omega)).trans a8, (up2_ne (by omega)).trans a9⟩
  · show up2 I 72 n _ 72 j = updF (zA σ) n _ j
    have e7 : ∀ j, j < 1000 → I 72 j = zA σ j := a5
    by_cases e : j = n
    · subst e
      rw [up2_eq, updF_eq]
    · rw [up2_nj e, updF_ne e, e7 j hj]
  · have := a6 c hc
    unfold seenP at this ⊢
    show match zE σ c with
      | none => _
      | some (s, v) => _
    rw [up2_ne (by omega), up2_ne (by omega)]
    exact this
theorem RB.setE {σ : SS} {I : IM} {D : DY} {c s v : Nat} (h : RB 0 σ I D) (hc : c < 4) (hs : s < 8) (hv : v ≤ 240) : RB 0 (wE σ (updF (zE σ) c (some (s, v)))) (up2 (up2 I 76 c (z32 (s : Int))) 77 c (z32 (v : Int))) D := by
  obtain ⟨a1, a2, a3, a4, a5, a6, a7, a8, a9⟩ := h
  have g : ∀ q k, q ≠ 76 → q ≠ 77 → up2 (up2 I 76 c (z32 (s : Int))) 77 c (z32 (v : Int)) q k = I q k := fun q k h1 h2 => by rw [up2_ne h2, up2_ne h1]
  refine ⟨a1.fr (g _ _ (by omega) (by omega)) (fun k => g _ _ (by omega) (by omega)) (fun k => g _ _ (by omega) (by omega)), a2.fr (fun k => g _ _ (by omega) (by omega)), a3.fr (g _ _ (by omega) (by omega)) (fun k => g _ _ (by omega) (by omega)) (fun a k h1 _ _ => g _ _ (by omega) (by omega)), a4.fr (fun k => g _ _ (by omega) (by omega)) (fun k => g _ _ (by omega) (by omega)) (fun k => g _ _ (by omega) (by omega)),
    fun j hj => (g _ _ (by omega) (by omega)).trans (a5 j hj), fun j hj => ?_, fun j hj => (g _ _ (by omega) (by omega)).trans (a7 j hj), (g _ _ (by omega) (by omega)).trans a8, (g _ _ (by omega) (by omega)).trans a9⟩
  have := a6 j hj
  show seenP _ 0 j (updF (zE σ) c (some (s, v)) j)
  by_cases e : j = c
  · subst e
    rw [updF_eq]
    exact ⟨by rw [up2_ne (by omega)]; exact up2_eq, up2_eq, hs, hv⟩
  · rw [updF_ne e]
    unfold seenP at this ⊢
    rw [up2_ne (by omega), up2_nj (by omega), up2_nj (by omega), up2_ne (by omega)]
    exact this
theorem c_asked {d : Nat} {I : IM} {D : DY} {K : Int32 → IM → Prop} {σ : SS} {s n a : Nat} {cm : Cm} {ex : Int32} (h : RB 0 σ I D) (hs : s < 8) (hn : n < 1000) (hc : isC I D a cm) (ok : okCm cm) (hv : zV σ ≤ 20)
    (k : ∀ I2, MX I I2 → RB 0 (askS σ s ex n cm).1 I2 D → K (askS σ s ex n cm).2 I2) : CI (d + 5) 46 [vR (some 54), vI (z32 (s : Int)), vI ex, vI (z32 (n : Int)), vR (some a)] (mm I D) K := by
  have hb : inB (z32 (n : Int)) 1000 := inB_n hn (by omega)
  have e72 : I 72 n = zA σ n := h.2.2.2.2.1 n hn
  have e4 : ¬ (0 < n ∧ 0 < zA σ n) → ¬ (ex = -1 ∨ ex = z32 (vrS (zL σ) s : Int)) → askS σ s ex n cm = (telS σ 2, -4) := fun h1 h2 => (if_neg h1).trans (if_neg h2)
  refine s_Store_asked _ _ _ _ (brP_i (fun q => ?_) (fun q => (brP_f (by show ¬ z32 1000 ≤ _; rw [z32_le] <;> omega)).mpr (tsP_i hb ?_)))
  · rw [z32_0, z32_le (by omega) (by omega) (by omega) (by omega)] at q
    have hn0 : ¬ (0 < n ∧ 0 < zA σ n) := fun e => by omega
    refine ask_core (d := d) h hs hc ok hv (fun q2 I2 m2 h2 => qI_i ?_) (fun q2 => qI_i ?_)
    · have e : askS σ s ex n cm = ((carS σ s cm (z32 cm.2.1)).1, (carS σ s cm (z32 cm.2.1)).2) := (if_neg hn0).trans ((if_pos q2).trans (by rw [if_neg (fun e => by omega)]))
      rw [e] at k
      exact k I2 m2.x h2
    · rw [e4 hn0 q2] at k
      exact k _ MF.tell.x (h.tell (by omega))
  · rw [z32_0, z32_le (by omega) (by omega) (by omega) (by omega)] at q
    rw [ix_n (by omega), e72]
    refine brP_i (fun q3 => ?_) (fun q3 => ?_)
    · have hn0 : ¬ (0 < n ∧ 0 < zA σ n) := fun e => absurd q3 (Int32.not_le.mpr e.2)
      refine ask_core (d := d) h hs hc ok hv (fun q2 I2 m2 h2 => ?_) (fun q2 => qI_i ?_)
      · have e : askS σ s ex n cm = ((if 0 < n ∧ 0 < (carS σ s cm (z32 cm.2.1)).2 then wA (carS σ s cm (z32 cm.2.1)).1 (updF (zA (carS σ s cm (z32 cm.2.1)).1) n (carS σ s cm (z32 cm.2.1)).2) else (carS σ s cm (z32 cm.2.1)).1), (carS σ s cm (z32 cm.2.1)).2) := (if_neg hn0).trans (if_pos q2)
        rw [e] at k
        refine brP_i (fun q4 => qI_i ?_) (fun q4 => tsP_i hb (qI_i ?_))
        · rw [if_neg (fun e => absurd q4 (Int32.not_le.mpr e.2))] at k
          exact k I2 m2.x h2
        · rw [if_pos ⟨by omega, Int32.not_le.mp q4⟩] at k
          exact k _ (m2.x.tr (fun q j _ _ _ _ _ _ _ _ h9 _ => up2_ne h9)) (h2.setA hn)
      · rw [e4 hn0 q2] at k
        exact k _ MF.tell.x (h.tell (by omega))
    · have hn0 : 0 < n ∧ 0 < zA σ n := ⟨by omega, Int32.not_le.mp q3⟩
      rw [e_tell (k := 1) (lit := 1) (by omega) rfl]
      refine tsP_i hb (qI_i ?_)
      rw [up2_ne (by omega), e72]
      rw [show askS σ s ex n cm = (telS σ 1, zA σ n) from if_pos hn0] at k
      exact k _ MF.tell.x (h.tell (by omega))
/-- a client's try -/
def tryS (σ : SS) (c s v : Nat) (fg : Bool) (cm : Cm) : SS × Int32 :=
  if z32 (vrS (zL σ) s : Int) = z32 (v : Int) ∨ (fg = true ∧ onlL (zH σ) s (z32 (v : Int)) (zL σ) ≠ 0) then
    ((if 0 < (carS σ s cm (z32 cm.2.1)).2 then wE (carS σ s cm (z32 cm.2.1)).1 (updF (zE (carS σ s cm (z32 cm.2.1)).1) c (some (s, vrS (zL (carS σ s cm (z32 cm.2.1)).1) s))) else (carS σ s cm (z32 cm.2.1)).1), (carS σ s cm (z32 cm.2.1)).2)
  else (telS σ 2, -4)
theorem carS_E {σ : SS} {s : Nat} {cm : Cm} {amt : Int32} : zE (carS σ s cm amt).1 = zE σ := by
  unfold carS hapS
  repeat' split
  all_goals rfl
/-! batches -/
abbrev LN : Type := Nat × Cm
def okLn (x : LN) : Prop := x.1 < 8 ∧ okCm x.2
def thkC (f : Nat → S4) (x : LN) : Nat → S4 := if x.2.1 = 6 then updF (updF f x.1 (chg 6 (z32 x.2.2.1) (f x.1))) x.2.2.2.1 (chg 7 (z32 x.2.2.1) (updF f x.1 (chg 6 (z32 x.2.2.1) (f x.1)) x.2.2.2.1)) else updF f x.1 (chg x.2.1 (z32 x.2.2.1) (f x.1))
/-- lines gone through, events, whether refused, states -/
def thk (r : Nat) : (Nat → S4) → List LN → Nat → Nat → Nat × Nat × Bool × (Nat → S4)
  | f, [], t, e => (t, e, false, f)
  | f, x :: l, t, e => if refV f x.1 x.2.1 x.2.2.2.1 (z32 x.2.2.1) = 0 then (if e + evC x.2 ≤ r then thk r (thkC f x) l (t + 1) (e + evC x.2) else (t, e, false, f)) else (t, e, true, f)
theorem e_cmdOf {d : Nat} {I : IM} {D : DY} {K : Option Nat → IM → Prop} {l : List LN} {i : Nat} (h : isB I D l) (hi : i < l.length) : CR d 70 [vR (some 49), vI (z32 (i : Int))] (mm I D) K ↔ K (dR D 51 i) I := by
  have := h.2.1
  refine CR_iff (s_Batch_commandOf _ ((brP_f (by rw [z32_0, z32_lt] <;> omega)).mpr ?_))
  rw [h.1]
  refine (brP_f (by rw [z32_le] <;> omega)).mpr ((brP_f (by show ¬ z32 40 ≤ _; rw [z32_le] <;> omega)).mpr (tsP_i (inB_n (by omega) (by omega)) ?_))
  rw [ix_n (by omega)]
  exact qR_i ⟨rfl, rfl⟩
theorem e_strOf {d : Nat} {I : IM} {D : DY} {K : Int32 → IM → Prop} {l : List LN} {i : Nat} (h : isB I D l) (hi : i < l.length) : CI d 71 [vR (some 49), vI (z32 (i : Int))] (mm I D) K ↔ K (I 50 i) I := by
  have := h.2.1
  refine CI_iff (s_Batch_streamOf _ ((brP_f (by rw [z32_0, z32_lt] <;> omega)).mpr ?_))
  rw [h.1]
  refine (brP_f (by rw [z32_le] <;> omega)).mpr ((brP_f (by show ¬ z32 40 ≤ _; rw [z32_le] <;> omega)).mpr (tsP_i (inB_n (by omega) (by omega)) (qI_i ⟨?_, rfl⟩)))
  rw [ix_n (by omega)]
theorem isB.fr {I I2 : IM} {D : DY} {l : List LN} (h : isB I D l) (h1 : I2 49 3 = I 49 3) (h2 : ∀ k, I2 50 k = I 50 k) (h3 : IMF I I2 D) : isB I2 D l := ⟨h1.trans h.1, h.2.1, fun i x hx => by
  obtain ⟨b1, b2, b, b3, b4⟩ := h.2.2 i x hx
  exact ⟨(h2 _).trans b1, b2, b, b3, b4.mf h3⟩⟩
/-- what thinking may change -/
def TF (I I2 : IM) : Prop := ∀ q k, ¬ (q = 53 ∨ (q = 49 ∧ 4 ≤ k)) → I2 q k = I q k
theorem TF.tr {I I2 I3 : IM} (h : TF I I2) (h2 : TF I2 I3) : TF I I3 := fun q k e => (h2 q k e).trans (h q k e)
theorem TF.q {I I2 : IM} {D : DY} (h : TF I I2) : QF D I I2 := fun q k e => h q k (fun e2 => e (by unfold QFp; omega))
theorem isB.tf {I I2 : IM} {D : DY} {l : List LN} (h : isB I D l) (hf : TF I I2) : isB I2 D l := h.fr (hf _ _ (by omega)) (fun k => hf _ _ (by omega)) (fun a k h1 _ _ => hf _ _ (by omega))
theorem c_bcarry {d : Nat} {I : IM} {D : DY} {K : IM → Prop} {f : Nat → S4} {x : LN} {a : Nat} (hB : BN 53 I f) (hx : okLn x) (hc : isC I D a x.2) (k : ∀ I2, (∀ q j, q ≠ 53 → I2 q j = I q j) → BN 53 I2 (thkC f x) → K I2) :
    CV (d + 3) 72 [vR (some 49), vI (z32 (x.1 : Int)), vR (some a)] (mm I D) K := by
  obtain ⟨hs, ok⟩ := hx
  have hk2 : ∀ J, pKd (mm J D) a = 2 := fun J => (mmK hc.1).trans hc.2.2.1
  obtain ⟨c1, c2, c3, c4, c5, c6, c7, c8⟩ := id hc
  refine s_Batch_carry _ _ (onR_i rfl (tsP_i (hk2 _) (onR_i rfl (tsP_i (hk2 _) ?_))))
  rw [c5, c6]
  refine c_bchange (d := d) BB52 hB hs ok.1 (fun I1 f1 b1 => onR_i rfl (tsP_i (hk2 _) ?_))
  have g : ∀ j, I1 a j = I a j := fun j => f1 a j (by omega)
  rw [g, c5]
  refine brP_i (fun q => qV_i (k I1 f1 ?_)) (fun q => onR_i rfl (tsP_i (hk2 _) (onR_i rfl (tsP_i (hk2 _) ?_))))
  · have q : x.2.1 ≠ 6 := fun e => q (by rw [e]; rfl)
    unfold thkC
    rw [if_neg q]
    exact b1
  · have q : x.2.1 = 6 := (z32_eN (m := 6) (by have := ok.1; omega) (by omega)).mp (Classical.not_not.mp q)
    rw [g, g, c7, c6]
    refine c_bchange (d := d) (kd := 7) BB52 b1 ok.2.2.2.2.1 (by omega) (fun I2 f2 b2 => qV_i (k I2 (fun q j hq => (f2 q j hq).trans (f1 q j hq)) ?_))
    unfold thkC
    rw [if_pos q]
    rw [q] at b2
    exact b2
theorem think_loop {d : Nat} {D : DY} {Q : Option PV → PM → Prop} {l : List LN} {r : Nat} (hr : r ≤ 240) (ok : ∀ x ∈ l, okLn x) : ∀ (xs pre : List LN) (I0 I : IM) (f : Nat → S4) (e : Nat) (w : PV), l = pre ++ xs → e ≤ 240 → isB I D l → BN 53 I f → I 49 4 = z32 (pre.length : Int) → I 49 5 = z32 (e : Int) → I 49 6 = 0 → TF I0 I →
    (∀ I2, TF I0 I2 → I2 49 4 = z32 ((thk r f xs pre.length e).1 : Int) → I2 49 5 = z32 ((thk r f xs pre.length e).2.1 : Int) → I2 49 6 = b32 ((thk r f xs pre.length e).2.2.1 = true) → BN 53 I2 (thk r f xs pre.length e).2.2.2 → Q none (mm I2 D)) →
    Wp GG (d + 4) 68 25 [vR (some 49), vR (some 59), vI (z32 (r : Int)), vI (z32 (pre.length : Int)), w] [] (mm I D) Q := by
  intro xs
  induction xs with
  | nil =>
    intro pre I0 I f e w hp he hB hN h4 h5 h6 ht k
    have hl : l.length = pre.length := by rw [hp, List.append_nil]
    have h40 := hB.2.1
    refine s_Batch_think_25 _ _ _ ?_
    rw [hB.1]
    exact (brP_t (by rw [z32_le] <;> omega)).mpr (k I ht h4 h5 h6 hN)
  | cons x xs ih =>
    intro pre I0 I f e w hp he hB hN h4 h5 h6 ht k
    have hl : l.length = pre.length + (xs.length + 1) := by rw [hp, List.length_append, List.length_cons]
    have hx : l[pre.length]? = some x := by rw [hp]; exact get_mid
    have hp2 : l = (pre ++ [x]) ++ xs := by rw [hp, List.append_assoc]; rfl
    have ih := fun I0 I f e w => ih (pre ++ [x]) I0 I f e w hp2
    rw [List.length_append, List.length_singleton] at ih
    have h40 := hB.2.1
    obtain ⟨hs, okc⟩ := ok x (by rw [hp]; simp)
    obtain ⟨b1, b2, a, b3, b4⟩ := hB.2.2 _ x hx
    have hk2 : ∀ J, pKd (mm J D) a = 2 := fun J => (mmK b4.1).trans b4.2.2.1
    refine s_Batch_think_25 _ _ _ ?_
    rw [hB.1]
    refine (brP_f (by rw [z32_le] <;> omega)).mpr ?_
    rw [e_cmdOf hB (by omega), b3]
    refine (brP_f (by simp)).mpr ?_
    rw [e_strOf hB (by omega), b1]
    refine onR_i rfl (tsP_i (hk2 _) ?_)
    obtain ⟨c1, c2, c3, c4, c5, c6, c7, c8⟩ := id b4
    rw [c6, e_refusal (d := d + 2) BB52 hN hs okc.2.2.2.2.1 okc.1 okc.2.1 (hk2 _) c5 c7]
    have ek : ∀ t, thk r f (x :: xs) t e = if refV f x.1 x.2.1 x.2.2.2.1 (z32 x.2.2.1) = 0 then (if e + evC x.2 ≤ r then thk r (thkC f x) xs (t + 1) (e + evC x.2) else (t, e, false, f)) else (t, e, true, f) := fun t => rfl
    rw [ek] at k
    have hev : evC x.2 ≤ 2 := by unfold evC; split <;> omega
    refine brP_i (fun q => onR_i rfl (tsP_i (hk2 _) ?_)) (fun q => ?_)
    · have q := refV_le.mp q
      rw [if_pos q] at k
      rw [e_evs b4 okc.1, h5, z32_add]
      refine brP_i (fun q2 => ?_) (fun q2 => ?_)
      · rw [z32_le (by omega) (by omega) (by omega) (by omega)] at q2
        rw [if_pos (by omega)] at k
        rw [e_strOf hB (by omega), b1]
        refine c_bcarry (d := d) hN ⟨hs, okc⟩ b4 (fun I2 f2 n2 => onR_i rfl (tsP_i (hk2 _) ?_))
        have t2 : TF I I2 := fun q j hq => f2 q j (fun e => hq (Or.inl e))
        rw [e_evs (b4.mf (t2.q (D := D)).im) okc.1, f2 49 5 (by omega), f2 49 4 (by omega), h5, h4, z32_s]
        have t3 : TF I2 (up2 (up2 I2 49 5 (z32 (e : Int) + z32 (evC x.2 : Int))) 49 4 (z32 ((pre.length + 1 : Nat) : Int))) := fun q j hq => by
          by_cases e : q = 49
          · subst e
            rw [up2_nj (by omega), up2_nj (by omega)]
          · rw [up2_ne e, up2_ne e]
        refine ih I0 _ (thkC f x) (e + evC x.2) _ (by omega) ((hB.tf t2).tf t3) (n2.fr (fun j => by rw [up2_ne (by omega), up2_ne (by omega)])) up2_eq ?_ ?_ (ht.tr (t2.tr t3)) k
        · rw [up2_nj (by omega), up2_eq, z32_add]
          rfl
        · rw [up2_nj (by omega), up2_nj (by omega), f2 49 6 (by omega)]
          exact h6
      · rw [z32_le (by omega) (by omega) (by omega) (by omega)] at q2
        rw [if_neg (by omega)] at k
        exact k I ht h4 h5 (by rw [h6]; rfl) hN
    · have q : ¬ refV f x.1 x.2.1 x.2.2.2.1 (z32 x.2.2.1) = 0 := fun e => q (refV_le.mpr e)
      rw [if_neg q] at k
      refine k _ (ht.tr (fun q j hq => ?_)) ?_ ?_ ?_ (hN.fr (fun j => up2_ne (by omega)))
      · by_cases e : q = 49
        · subst e
          exact up2_nj (by omega)
        · exact up2_ne e
      · rw [up2_nj (by omega)]; exact h4
      · rw [up2_nj (by omega)]; exact h5
      · rw [up2_eq]; rfl
theorem c_think {d : Nat} {I : IM} {D : DY} {K : IM → Prop} {l : List LN} {r : Nat} {f : Nat → S4} (hr : r ≤ 240) (ok : ∀ x ∈ l, okLn x) (hB : isB I D l) (hN : BN 60 I f)
    (k : ∀ I2, TF I I2 → I2 49 4 = z32 ((thk r f l 0 0).1 : Int) → I2 49 5 = z32 ((thk r f l 0 0).2.1 : Int) → I2 49 6 = b32 ((thk r f l 0 0).2.2.1 = true) → BN 53 I2 (thk r f l 0 0).2.2.2 → K I2) : CV (d + 4) 68 [vR (some 49), vR (some 59), vI (z32 (r : Int))] (mm I D) K := by
  refine s_Batch_think _ ?_
  rw [e_bcopy (d := d + 2) BB52 BB59]
  have t : TF I (up2 (up2 (up2 (cpI I 60 53 0 0 32) 49 4 0) 49 5 0) 49 6 0) := fun q j hq => by
    by_cases e : q = 49
    · subst e
      rw [up2_nj (by omega), up2_nj (by omega), up2_nj (by omega), cpI_ne (by omega)]
    · rw [up2_ne e, up2_ne e, up2_ne e, cpI_ne (by omega)]
  refine think_loop (d := d) hr ok l [] I _ f 0 _ rfl (by omega) (hB.tf t) ((hN.copy (c := 53)).fr (fun j => by rw [up2_ne (by omega), up2_ne (by omega), up2_ne (by omega)])) ?_ ?_ up2_eq t (fun I2 h1 h2 h3 h4 h5 => qV_i (k I2 h1 h2 h3 h4 h5))
  · rw [up2_nj (by omega), up2_nj (by omega), up2_eq]; rfl
  · rw [up2_nj (by omega), up2_eq]; rfl
def carL (σ : SS) (l : List LN) : SS := l.foldl (fun σ x => (carS σ x.1 x.2 (z32 x.2.2.1)).1) σ
def batS (σ : SS) (l : List LN) : SS × Int32 :=
  if (thk (240 - (zL σ).length) (stF (zC σ) (zL σ)) l 0 0).1 < l.length then ((if (thk (240 - (zL σ).length) (stF (zC σ) (zL σ)) l 0 0).2.2.1 = true then telS σ 3 else σ), z32 (-300 - ((thk (240 - (zL σ).length) (stF (zC σ) (zL σ)) l 0 0).1 : Int)))
  else (carL σ l, z32 ((thk (240 - (zL σ).length) (stF (zC σ) (zL σ)) l 0 0).2.1 : Int))
theorem carS_V {σ : SS} {s : Nat} {cm : Cm} {amt : Int32} : zV (carS σ s cm amt).1 = zV σ := by
  unfold carS hapS
  repeat' split
  all_goals rfl
theorem RB.fr {o : Nat} {I I2 : IM} {D : DY} {σ : SS} (h : RB o σ I D) (h1 : ∀ q k, bP o q k → I2 q k = I q k) (h3 : IMF I I2 D) : RB o σ I2 D := by
  obtain ⟨a1, a2, a3, a4, a5, a6, a7, a8, a9⟩ := h
  have b : ∀ q k, 54 + o ≤ q ∧ q ≤ 78 + o ∧ q ≠ 58 + o ∧ q ≠ 61 + o ∧ q ≠ 62 + o ∧ q ≠ 67 + o ∧ (q = 55 + o → k = 4) ∧ (q = 54 + o → 13 ≤ k) → I2 q k = I q k := h1
  refine ⟨a1.fr (b _ _ (by omega)) (fun k => b _ _ (by omega)) (fun k => b _ _ (by omega)), a2.fr (fun k => b _ _ (by omega)), a3.fr (b _ _ (by omega)) (fun k => b _ _ (by omega)) h3, a4.fr (fun k => b _ _ (by omega)) (fun k => b _ _ (by omega)) (fun k => b _ _ (by omega)),
    fun k hk => (b _ _ (by omega)).trans (a5 k hk), fun c hc => ?_, fun k hk => (b _ _ (by omega)).trans (a7 k hk), (b _ _ (by omega)).trans a8, (b _ _ (by omega)).trans a9⟩
  have := a6 c hc
  unfold seenP at this ⊢
  rw [b (76 + o) c (by omega), b (77 + o) c (by omega)]
  exact this
theorem RB.qf {I I2 : IM} {D : DY} {σ : SS} (h : RB 0 σ I D) (hf : QF D I I2) : RB 0 σ I2 D := h.fr (fun q k hq => hf.at (by unfold bP at hq; omega) (by unfold bP at hq; omega)) hf.im
theorem carry_loop {d : Nat} {D : DY} {K : Int32 → IM → Prop} {l : List LN} {ev : Int32} (ok : ∀ x ∈ l, okLn x) : ∀ (xs pre : List LN) (I0 I : IM) (σ : SS) (w : PV), l = pre ++ xs → isB I D l → RB 0 σ I D → zV σ ≤ 20 → I 49 5 = ev →
    (∀ I2, MF I I2 → RB 0 (carL σ xs) I2 D → K ev I2) → Wp GG (d + 5) 67 49 [vR (some 54), vR (some 49), vI (z32 (pre.length : Int)), w] [] (mm I D) (qI (mm I0 D) K) := by
  intro xs
  induction xs with
  | nil =>
    intro pre I0 I σ w hp hB hR hv h5 k
    have hl : l.length = pre.length := by rw [hp, List.append_nil]
    have h40 := hB.2.1
    refine s_Store_carryAll_49 _ _ ?_
    rw [hB.1, h5]
    exact (brP_t (by rw [z32_le] <;> omega)).mpr (qI_i (k I MF.rf hR))
  | cons x xs ih =>
    intro pre I0 I σ w hp hB hR hv h5 k
    have hl : l.length = pre.length + (xs.length + 1) := by rw [hp, List.length_append, List.length_cons]
    have hx : l[pre.length]? = some x := by rw [hp]; exact get_mid
    have hp2 : l = (pre ++ [x]) ++ xs := by rw [hp, List.append_assoc]; rfl
    have ih := fun I0 I σ w => ih (pre ++ [x]) I0 I σ w hp2
    rw [List.length_append, List.length_singleton] at ih
    have h40 := hB.2.1
    obtain ⟨hs, okc⟩ := ok x (by rw [hp]; simp)
    obtain ⟨b1, b2, a, b3, b4⟩ := hB.2.2 _ x hx
    have hk2 : ∀ J, pKd (mm J D) a = 2 := fun J => (mmK b4.1).trans b4.2.2.1
    refine s_Store_carryAll_49 _ _ ?_
    rw [hB.1]
    refine (brP_f (by rw [z32_le] <;> omega)).mpr ?_
    rw [e_cmdOf hB (by omega), b3]
    refine (brP_f (by simp)).mpr ?_
    rw [e_strOf hB (by omega), b1]
    refine onR_i rfl (tsP_i (hk2 _) ?_)
    rw [b4.2.2.2.2.2.1, z32_s]
    refine c_carry (d := d) hR hs b4 okc hv (fun I2 m2 h2 => ?_)
    exact ih I0 I2 _ _ (hB.fr (m2.at (by omega)) (fun j => m2.at (by omega)) m2.im) h2 (by rw [carS_V]; exact hv) ((m2.at (by omega)).trans h5) (fun I3 m3 h3 => k I3 (m2.tr m3) h3)
/-- what a batch may change -/
def BF (I I2 : IM) : Prop := ∀ q k, ¬ (q = 53 ∨ (q = 49 ∧ 4 ≤ k)) → ¬ (q = 55 ∧ k = 4) → q ≠ 56 → q ≠ 57 → q ≠ 60 → q ≠ 69 → q ≠ 70 → q ≠ 71 → q ≠ 78 → I2 q k = I q k
theorem BF.mk {I I2 I3 : IM} (h : TF I I2) (h2 : MF I2 I3) : BF I I3 := fun q k a0 a1 a2 a3 a4 a5 a6 a7 a8 => (h2 q k a1 a2 a3 a4 a5 a6 a7 a8).trans (h q k a0)
theorem c_carryAll {d : Nat} {I : IM} {D : DY} {K : Int32 → IM → Prop} {σ : SS} {l : List LN} (h : RB 0 σ I D) (hB : isB I D l) (ok : ∀ x ∈ l, okLn x) (hv : zV σ ≤ 20)
    (k : ∀ I2, BF I I2 → RB 0 (batS σ l).1 I2 D → K (batS σ l).2 I2) : CI (d + 6) 67 [vR (some 54), vR (some 49)] (mm I D) K := by
  obtain ⟨a1, a2, a3, a4, a5, a6, a7, a8, a9⟩ := id h
  have a1 : LG 55 I (zL σ) := a1
  have hl := a1.2.1
  have h40 := hB.2.1
  refine s_Store_carryAll ?_
  rw [e_room a1, show (240 : Int) - ((zL σ).length : Int) = ((240 - (zL σ).length : Nat) : Int) by omega]
  refine c_think (d := d + 1) (by omega) ok hB a2 (fun I1 t1 g4 g5 g6 gN => ?_)
  have hB1 := hB.tf t1
  have h1 : RB 0 σ I1 D := h.qf t1.q
  have hle : (thk (240 - (zL σ).length) (stF (zC σ) (zL σ)) l 0 0).1 ≤ l.length := by
    have : ∀ (r : Nat) (l : List LN) (f : Nat → S4) (t e : Nat), (thk r f l t e).1 ≤ t + l.length := by
      intro r l
      induction l with
      | nil => intro f t e; exact Nat.le_refl _
      | cons x l ih =>
        intro f t e
        unfold thk
        rw [List.length_cons]
        split
        · split
          · have := ih (thkC f x) (t + 1) (e + evC x.2)
            omega
          · exact Nat.le_add_right _ _
        · exact Nat.le_add_right _ _
    have := this (240 - (zL σ).length) l (stF (zC σ) (zL σ)) 0 0
    omega
  rw [hB1.1, g4, g6]
  have e300 : ∀ t : Nat, (-300 : Int32) - z32 (t : Int) = z32 (-300 - (t : Int)) := fun t => by
    show z32 (-300) - _ = _
    rw [z32_sub]
  refine brP_i (fun q => ?_) (fun q => ?_)
  · rw [z32_le (by omega) (by omega) (by omega) (by omega)] at q
    have eb : batS σ l = (carL σ l, z32 ((thk (240 - (zL σ).length) (stF (zC σ) (zL σ)) l 0 0).2.1 : Int)) := if_neg (by omega)
    rw [eb] at k
    exact carry_loop (d := d + 1) ok l [] I I1 σ _ rfl hB1 h1 hv g5 (fun I2 m2 h2 => k I2 (BF.mk t1 m2) h2)
  · rw [z32_le (by omega) (by omega) (by omega) (by omega)] at q
    have eb : batS σ l = ((if (thk (240 - (zL σ).length) (stF (zC σ) (zL σ)) l 0 0).2.2.1 = true then telS σ 3 else σ), z32 (-300 - ((thk (240 - (zL σ).length) (stF (zC σ) (zL σ)) l 0 0).1 : Int))) := if_pos (by omega)
    rw [eb] at k
    rw [e300]
    refine brP_i (fun q2 => qI_i ?_) (fun q2 => ?_)
    · have q2 := b32_0.mp q2
      rw [if_neg q2] at k
      exact k I1 (BF.mk t1 MF.rf) h1
    · have q2 := Classical.not_not.mp (fun e => q2 (b32_0.mpr e))
      rw [if_pos q2] at k
      rw [e_tell (k := 3) (lit := 3) (by omega) rfl, up2_ne (by omega), g4, e300]
      exact qI_i (k _ (BF.mk t1 MF.tell) (h1.tell (by omega)))
