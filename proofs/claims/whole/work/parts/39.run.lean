/-! Policies run; watches, tallies. -/
def EOk (σ : SS) : Prop := ∀ e ∈ zL σ, okEv (zC σ) e
theorem comS_ok {σ : SS} {s k : Nat} {a b : Int32} (h : EOk σ) (hs : s < 8) (hk : k < 9) : EOk (comS σ s k a b) := fun e he => by
  have he : e ∈ zL σ ++ [evN σ s k a b] := he
  rw [List.mem_append, List.mem_singleton] at he
  rcases he with he | rfl
  · exact h e he
  · exact ⟨hs, hk, by show 1 ≤ (zC σ k).length + 1; omega, Nat.le_refl _⟩
theorem hapS_ok {σ : SS} {s : Nat} {cm : Cm} {amt : Int32} (h : EOk σ) (hs : s < 8) (ok : okCm cm) : EOk (hapS σ s cm amt) := by
  unfold hapS
  split
  · exact comS_ok (comS_ok h hs (by omega)) ok.2.2.2.2.1 (by omega)
  · exact comS_ok h hs ok.1
theorem carS_ok {σ : SS} {s : Nat} {cm : Cm} {amt : Int32} (h : EOk σ) (hs : s < 8) (ok : okCm cm) : EOk (carS σ s cm amt).1 := by
  unfold carS
  repeat' split
  · exact hapS_ok (σ := σ) h hs ok
  · exact h
  · exact h
theorem hndS_ok {σ : SS} {x : QL} {e : EV} (h : EOk σ) (he : eS e < 8) (ok : okCm (qlK x)) : EOk (hndS σ x e).1 ∧ zV (hndS σ x e).1 = zV σ ∧ qlP (hndS σ x e).2.1 = qlP x := by
  unfold hndS
  repeat' split
  · exact ⟨carS_ok h he ok, carS_V, rfl⟩
  · exact ⟨carS_ok h he ok, carS_V, rfl⟩
  · exact ⟨carS_ok h he ok, carS_V, rfl⟩
  · exact ⟨h, rfl, rfl⟩
theorem isQ.cp {I : IM} {D : DY} {a p : Nat} {x : QL} (h : isQ I D a x) (hp : p ≤ 240) : isQ (up2 I a 3 (z32 (p : Int))) D a (setQ x p (qlD x) (qlR x)) := by
  obtain ⟨w1, ⟨wf, w2, w3⟩, w4, ⟨wc, w5, w6⟩, w7, ⟨w8, w9, w10, w11⟩, w12⟩ := h
  have im : IMF I (up2 I a 3 (z32 (p : Int))) D := fun q k _ _ hw => up2_ne (fun c => by rw [c] at hw; omega)
  exact ⟨w1, ⟨wf, w2, w3.qf im⟩, w4, ⟨wc, w5, w6.mf im⟩, w7, ⟨(up2_nj (by omega)).trans w8, up2_eq, (up2_nj (by omega)).trans w10, (up2_nj (by omega)).trans w11⟩, hp⟩
theorem run_loop {d : Nat} {D : DY} {K : Int32 → IM → Prop} {a n : Nat} (hn : n ≤ 240) : ∀ (g i : Nat) (I0 I : IM) (σ : SS) (x : QL), i + g = n → EOk σ → zV σ ≤ 20 → RB 0 σ I D → isQ I D a x → NF D a I0 I →
    (∀ I2, NF D a I0 I2 → RB 0 (ranS g σ x i).1 I2 D → isQ I2 D a (ranS g σ x i).2.1 → K (z32 ((ranS g σ x i).2.2 : Int)) I2) →
    Wp GG (d + 6) 136 2 [vR (some 54), vR (some a), vI (z32 (n : Int)), vI (z32 (i : Int))] [] (mm I D) (qI (mm I0 D) K) := by
  intro g
  induction g with
  | zero =>
    intro i I0 I σ x hi ho hv hR hQ hs k
    exact s_Store_runPolicy_2 _ _ _ ((brP_t (by rw [z32_le] <;> omega)).mpr (qI_i (k I hs hR hQ)))
  | succ g ih =>
    intro i I0 I σ x hi ho hv hR hQ hs k
    have a1 : LG 55 I (zL σ) := hR.1
    have hl := a1.2.1
    have e3 : I a 3 = z32 (qlP x : Int) := hQ.2.2.2.2.2.1.2.1
    have h240 := hQ.2.2.2.2.2.2
    have er : ranS (g + 1) σ x i = (match (zL σ)[qlP x]? with
      | none => (σ, x, i)
      | some e => if (hndS σ x e).2.2 = true then ranS g (hndS σ x e).1 (setQ (hndS σ x e).2.1 (qlP x + 1) (qlD (hndS σ x e).2.1) (qlR (hndS σ x e).2.1)) (i + 1) else ((hndS σ x e).1, (hndS σ x e).2.1, i)) := rfl
    rw [er] at k
    refine s_Store_runPolicy_2 _ _ _ ((brP_f (by rw [z32_le] <;> omega)).mpr (onR_i rfl (tsP_i (hQ.k _) ?_)))
    rw [e3, a1.1]
    refine brP_i (fun q => qI_i ?_) (fun q => onR_i rfl (tsP_i (hQ.k _) ?_))
    · rw [z32_le (by omega) (by omega) (by omega) (by omega)] at q
      rw [List.getElem?_eq_none (by omega)] at k
      exact k I hs hR hQ
    · rw [z32_le (by omega) (by omega) (by omega) (by omega)] at q
      obtain ⟨e, he⟩ : ∃ e, (zL σ)[qlP x]? = some e := ⟨(zL σ)[qlP x]'(by omega), List.getElem?_eq_getElem (by omega)⟩
      rw [he] at k
      dsimp only at k
      have hoe := ho e (List.mem_of_getElem? he)
      obtain ⟨o1, o2, o3⟩ := hndS_ok (x := x) ho hoe.1 hQ.2.2.2.2.1
      rw [e3, z32_s, z32_s]
      refine c_handled (d := d) hR hv he hoe hQ (fun I2 n2 h2 q2 => ?_)
      refine brP_i (fun z => onR_i rfl (tsP_i (hQ.k _) (onR_i rfl (tsP_i (hQ.k _) ?_)))) (fun z => qI_i ?_)
      · have z := Classical.not_not.mp (fun c => z (b32_0.mpr c))
        rw [if_pos z] at k
        have e3' : I2 a 3 = z32 (qlP x : Int) := by rw [q2.2.2.2.2.2.1.2.1, o3]
        rw [e3', z32_s]
        refine ih (i + 1) I0 _ _ _ (by omega) o1 (by rw [o2]; exact hv) ?_ (q2.cp (p := qlP x + 1) (by omega)) (hs.tr (n2.tr (fun q j hq => if_neg (fun c => hq (by omega))))) k
        exact h2.fr (fun q j hq => up2_ne (by have := hQ.1.1; unfold bP at hq; omega)) (fun q j _ _ hw => up2_ne (fun c => by rw [c, hQ.1.2.2.2] at hw; omega))
      · have z := b32_0.mp (Classical.not_not.mp z)
        rw [if_neg z] at k
        exact k I2 (hs.tr n2) h2 q2
theorem c_runPolicy {d : Nat} {I : IM} {D : DY} {K : Int32 → IM → Prop} {σ : SS} {a n : Nat} {x : QL} (hn : n ≤ 240) (ho : EOk σ) (hv : zV σ ≤ 20) (hR : RB 0 σ I D) (hQ : isQ I D a x)
    (k : ∀ I2, NF D a I I2 → RB 0 (ranS n σ x 0).1 I2 D → isQ I2 D a (ranS n σ x 0).2.1 → K (z32 ((ranS n σ x 0).2.2 : Int)) I2) : CI (d + 6) 136 [vR (some 54), vR (some a), vI (z32 (n : Int))] (mm I D) K :=
  s_Store_runPolicy _ _ (run_loop (d := d) hn n 0 I I σ x (by omega) ho hv hR hQ NF.rf k)
/-! watches -/
/-- first, last, times, in a row, longest -/
abbrev W5 : Type := Int32 × Int32 × Int32 × Int32 × Int32
def wst (b : Prop) [Decidable b] (v : Int32) (w : W5) : W5 := if b then ((if w.1 = -2 then v else w.1), v, w.2.2.1 + 1, w.2.2.2.1 + 1, (if w.2.2.2.2 < w.2.2.2.1 + 1 then w.2.2.2.1 + 1 else w.2.2.2.2)) else (w.1, w.2.1, w.2.2.1, 0, w.2.2.2.2)
def wat (C : CF) (s : Nat) (c : Tx) : List EV → S4 → W5 → W5
  | [], _, w => w
  | e :: l, x, w => if eS e = s then wat C s c l (chg (eK e) (rdE C e).1 x) (wst (valV (env5 (chg (eK e) (rdE C e).1 x).1 (chg (eK e) (rdE C e).1 x).2.1 (chg (eK e) (rdE C e).1 x).2.2.1 (chg (eK e) (rdE C e).1 x).2.2.2 (z32 (eV e : Int))) c ≠ 0) (z32 (eV e : Int)) w) else wat C s c l x w
theorem seen_loop {d : Nat} {D : DY} {K : Int32 → IM → Prop} {a s : Nat} {c : Tx} {f : Nat → S4} {v : Int32} (hs : s < 8) (hw : cWF 5 c) : ∀ (g i : Nat) (I0 I : IM), i + g = 4 → isF I D a c → BN 62 I f → (∀ j, j < i → I 79 j = s4 j (f s)) → QF D I0 I → BN 62 I0 f →
    (∀ I2, QF D I0 I2 → BN 62 I2 f → K (b32 (valV (env5 (f s).1 (f s).2.1 (f s).2.2.1 (f s).2.2.2 v) c ≠ 0)) I2) →
    Wp GG (d + 2) 148 3 [vR (some 54), vR (some a), vI (z32 (s : Int)), vI v, vI (z32 (i : Int))] [] (mm I D) (qI (mm I0 D) K) := by
  intro g
  induction g with
  | zero =>
    intro i I0 I hi hF hB hl hq hB0 k
    obtain rfl : i = 4 := by omega
    refine s_Store_isSeen_3 _ _ _ _ ((brP_t (by show z32 4 ≤ _; rw [z32_le] <;> omega)).mpr (onR_i rfl (tsP_i ((mmK hF.1).trans hF.2.2.1) ?_)))
    have q1 : QF D I (up2 I 79 4 v) := QF.put (by unfold QFp; omega)
    refine c_give (d := d) (nv := 5) (n := 5) (la := 79) (env := env5 (f s).1 (f s).2.1 (f s).2.2.1 (f s).2.2.2 v) (hF.qf q1.im) hw (by omega) rfl rfl (by omega) (by omega) (fun j hj => ?_) (fun I2 g2 => ?_)
    · by_cases e : j = 4
      · subst e
        exact up2_eq
      · rw [up2_nj e, hl j (by omega)]
        obtain rfl | rfl | rfl | rfl : j = 0 ∨ j = 1 ∨ j = 2 ∨ j = 3 := by omega
        all_goals rfl
    · have hB2 : BN 62 I2 f := hB.fr (fun j => (g2 _ _ (Or.inl (by omega))).trans (up2_ne (by omega)))
      have kk := k I2 (hq.tr (q1.tr g2.q)) hB2
      refine brP_i (fun z => qI_i ?_) (fun z => qI_i ?_)
      · rwa [b32_f (fun c => c z)] at kk
      · rwa [b32_t z] at kk
  | succ g ih =>
    intro i I0 I hi hF hB hl hq hB0 k
    refine s_Store_isSeen_3 _ _ _ _ ((brP_f (by show ¬ z32 4 ≤ _; rw [z32_le] <;> omega)).mpr ((brP_f (by show ¬ z32 5 ≤ _; rw [z32_le] <;> omega)).mpr ?_))
    rw [e_bg (w := i) BB61 hB hs (by omega) rfl, z32_s]
    refine tsP_i (inB_n (by omega) (by omega)) ?_
    rw [ix_n (by omega)]
    have q1 : QF D I (up2 I 79 i (s4 i (f s))) := QF.put (by unfold QFp; omega)
    refine ih (i + 1) I0 _ (by omega) (hF.qf q1.im) (hB.fr (fun j => up2_ne (by omega))) (fun j hj => ?_) (hq.tr q1) hB0 k
    by_cases e : j = i
    · subst e
      exact up2_eq
    · rw [up2_nj e, hl j (by omega)]
theorem c_isSeen {d : Nat} {I : IM} {D : DY} {K : Int32 → IM → Prop} {a s : Nat} {c : Tx} {f : Nat → S4} {v : Int32} (hs : s < 8) (hw : cWF 5 c) (hF : isF I D a c) (hB : BN 62 I f)
    (k : ∀ I2, QF D I I2 → BN 62 I2 f → K (b32 (valV (env5 (f s).1 (f s).2.1 (f s).2.2.1 (f s).2.2.2 v) c ≠ 0)) I2) : CI (d + 2) 148 [vR (some 54), vR (some a), vI (z32 (s : Int)), vI v] (mm I D) K :=
  s_Store_isSeen _ _ _ (seen_loop (d := d) hs hw 4 0 I I rfl hF hB (fun j hj => absurd hj (Nat.not_lt_zero j)) QF.rf hB k)
def wsel (what : Nat) (w : W5) : Int32 := if what = 0 then w.1 else if what = 1 then w.2.2.1 else if what = 2 then w.2.2.2.2 else w.2.1
theorem watch_loop {d : Nat} {D : DY} {K : Int32 → IM → Prop} {C : CF} {L : List EV} {a s what : Nat} {c : Tx} (hs : s < 8) (hwh : what < 4) (hw : cWF 5 c) (ho : ∀ e ∈ L, okEv C e) : ∀ (xs pre : List EV) (I0 I : IM) (f : Nat → S4) (w : W5) (u : PV), L = pre ++ xs → LG 55 I L → FM 63 I D C → isF I D a c → BN 62 I f → QF D I0 I →
    (∀ I2, QF D I0 I2 → K (wsel what (wat C s c xs (f s) w)) I2) →
    Wp GG (d + 6) 147 27 [vR (some 54), vI (z32 (s : Int)), vI (z32 (what : Int)), vR (some a), vI w.1, vI w.2.1, vI w.2.2.1, vI w.2.2.2.1, vI w.2.2.2.2, vI (z32 ((pre.length + 1 : Nat) : Int)), u] [] (mm I D) (qI (mm I0 D) K) := by
  intro xs
  induction xs with
  | nil =>
    intro pre I0 I f w u hp hL hM hF hB hq k
    have hl : L.length = pre.length := by rw [hp, List.append_nil]
    have h240 := hL.2.1
    refine s_Store_watched_27 _ _ _ _ _ _ _ _ _ _ ?_
    rw [hL.1]
    refine (brP_t (by rw [z32_lt] <;> omega)).mpr ?_
    have kk := k I hq
    have hww : wat C s c [] (f s) w = w := rfl
    rw [hww] at kk
    obtain rfl | rfl | rfl | rfl : what = 0 ∨ what = 1 ∨ what = 2 ∨ what = 3 := by omega
    · exact (brP_f (by decide)).mpr (qI_i kk)
    · exact (brP_t (by decide)).mpr ((brP_f (by decide)).mpr (qI_i kk))
    · exact (brP_t (by decide)).mpr ((brP_t (by decide)).mpr ((brP_f (by decide)).mpr (qI_i kk)))
    · exact (brP_t (by decide)).mpr ((brP_t (by decide)).mpr ((brP_t (by decide)).mpr (qI_i kk)))
  | cons e xs ih =>
    intro pre I0 I f w u hp hL hM hF hB hq k
    have hl : L.length = pre.length + (xs.length + 1) := by rw [hp, List.length_append, List.length_cons]
    have h240 := hL.2.1
    have he : L[pre.length]? = some e := by rw [hp]; exact get_mid
    have hoe := ho e (by rw [hp]; simp)
    have hp2 : L = (pre ++ [e]) ++ xs := by rw [hp, List.append_assoc]; rfl
    have ih := fun I0 I f w u => ih (pre ++ [e]) I0 I f w u hp2
    rw [List.length_append, List.length_singleton] at ih
    refine s_Store_watched_27 _ _ _ _ _ _ _ _ _ _ ?_
    rw [hL.1]
    refine (brP_f (by rw [z32_lt] <;> omega)).mpr ((brP_f (by rw [z32_0, z32_le] <;> omega)).mpr ?_)
    rw [e_lg (d := d + 3) hL he (c := 0) (lit := 0) (by omega) rfl, z32_s]
    have ek : wat C s c (e :: xs) (f s) w = if eS e = s then wat C s c xs (chg (eK e) (rdE C e).1 (f s)) (wst (valV (env5 (chg (eK e) (rdE C e).1 (f s)).1 (chg (eK e) (rdE C e).1 (f s)).2.1 (chg (eK e) (rdE C e).1 (f s)).2.2.1 (chg (eK e) (rdE C e).1 (f s)).2.2.2 (z32 (eV e : Int))) c ≠ 0) (z32 (eV e : Int)) w) else wat C s c xs (f s) w := rfl
    rw [ek] at k
    refine brP_i (fun q => ?_) (fun q => ?_)
    · have q : eS e = s := (z32_eN (by have := hoe.1; omega) (by omega)).mp q
      rw [if_pos q] at k
      rw [e_lg (d := d + 3) hL he (c := 1) (lit := 1) (by omega) rfl]
      refine c_changePast (d := d + 1) hL hM he hoe hB (fun I2 q2 b2 => ?_)
      refine c_isSeen (d := d + 3) hs hw (hF.qf q2.im) b2 (fun I3 q3 b3 => ?_)
      rw [q, updF_eq]
      have r3 := hq.tr (q2.tr q3)
      have hF3 := (hF.qf q2.im).qf q3.im
      have hL3 := (hL.qf q2).qf q3
      have hM3 := (hM.qf q2).qf q3
      rw [q] at b3
      refine brP_i (fun z => ?_) (fun z => ?_)
      · have z := Classical.not_not.mp (fun h => z (b32_0.mpr h))
        have ew : wst (valV (env5 (chg (eK e) (rdE C e).1 (f s)).1 (chg (eK e) (rdE C e).1 (f s)).2.1 (chg (eK e) (rdE C e).1 (f s)).2.2.1 (chg (eK e) (rdE C e).1 (f s)).2.2.2 (z32 (eV e : Int))) c ≠ 0) (z32 (eV e : Int)) w = ((if w.1 = -2 then z32 (eV e : Int) else w.1), z32 (eV e : Int), w.2.2.1 + 1, w.2.2.2.1 + 1, (if w.2.2.2.2 < w.2.2.2.1 + 1 then w.2.2.2.1 + 1 else w.2.2.2.2)) := if_pos z
        rw [ew] at k
        refine brP_i (fun z2 => ?_) (fun z2 => ?_)
        · rw [if_neg z2] at k
          rw [e_max]
          refine ih I0 I3 _ (w.1, z32 (eV e : Int), w.2.2.1 + 1, w.2.2.2.1 + 1, (if w.2.2.2.2 < w.2.2.2.1 + 1 then w.2.2.2.1 + 1 else w.2.2.2.2)) _ hL3 hM3 hF3 b3 r3 ?_
          rw [updF_eq]
          exact k
        · rw [if_pos (Classical.not_not.mp z2)] at k
          rw [e_max]
          refine ih I0 I3 _ (z32 (eV e : Int), z32 (eV e : Int), w.2.2.1 + 1, w.2.2.2.1 + 1, (if w.2.2.2.2 < w.2.2.2.1 + 1 then w.2.2.2.1 + 1 else w.2.2.2.2)) _ hL3 hM3 hF3 b3 r3 ?_
          rw [updF_eq]
          exact k
      · have z := b32_0.mp (Classical.not_not.mp z)
        have ew : wst (valV (env5 (chg (eK e) (rdE C e).1 (f s)).1 (chg (eK e) (rdE C e).1 (f s)).2.1 (chg (eK e) (rdE C e).1 (f s)).2.2.1 (chg (eK e) (rdE C e).1 (f s)).2.2.2 (z32 (eV e : Int))) c ≠ 0) (z32 (eV e : Int)) w = (w.1, w.2.1, w.2.2.1, 0, w.2.2.2.2) := if_neg z
        rw [ew] at k
        refine ih I0 I3 _ (w.1, w.2.1, w.2.2.1, 0, w.2.2.2.2) _ hL3 hM3 hF3 b3 r3 ?_
        rw [updF_eq]
        exact k
    · have q : ¬ eS e = s := fun e2 => q (by show z32 (eS e : Int) = _; rw [e2])
      rw [if_neg q] at k
      exact ih I0 I f w _ hL hM hF hB hq k
def watS (C : CF) (L : List EV) (s : Nat) (c : Tx) : W5 := wat C s c L (0, 0, 0, 0) (wst (valV (env5 0 0 0 0 0) c ≠ 0) 0 (-2, -2, 0, 0, 0))
theorem c_watched {d : Nat} {I : IM} {D : DY} {K : Int32 → IM → Prop} {C : CF} {L : List EV} {a s what : Nat} {c : Tx} (hs : s < 8) (hwh : what < 4) (hw : cWF 5 c) (ho : ∀ e ∈ L, okEv C e) (hL : LG 55 I L) (hM : FM 63 I D C) (hF : isF I D a c)
    (k : ∀ I2, QF D I I2 → K (wsel what (watS C L s c)) I2) : CI (d + 6) 147 [vR (some 54), vI (z32 (s : Int)), vI (z32 (what : Int)), vR (some a)] (mm I D) K := by
  have h240 := hL.2.1
  refine s_Store_watched _ _ _ (c_bclear (d := d + 4) BB61 (fun I1 f1 b1 => ?_))
  have q1 : QF D I I1 := QF.row f1 (by omega)
  refine s_Store_watched_27 _ _ _ _ _ _ _ _ _ _ ?_
  rw [(hL.qf q1).1]
  refine (brP_f (by rw [z32_0, z32_lt] <;> omega)).mpr ((brP_t (by decide)).mpr ?_)
  refine c_isSeen (d := d + 3) hs hw (hF.qf q1.im) b1 (fun I2 q2 b2 => ?_)
  have r2 := q1.tr q2
  have l2 := hL.qf r2
  have m2 := hM.qf r2
  have f2 := hF.qf r2.im
  have e1 : (0 : Int32) + 1 = z32 (((([] : List EV).length) + 1 : Nat) : Int) := by decide
  refine brP_i (fun z => ?_) (fun z => ?_)
  · have z := Classical.not_not.mp (fun h => z (b32_0.mpr h))
    refine (brP_f (by decide)).mpr ?_
    rw [e_max, e1]
    refine watch_loop (d := d) hs hwh hw ho L [] I I2 _ (0, 0, 0 + 1, 0 + 1, (if (0 : Int32) < 0 + 1 then 0 + 1 else 0)) _ rfl l2 m2 f2 b2 r2 (fun I3 q3 => ?_)
    have := k I3 q3
    unfold watS at this
    rw [show wst (valV (env5 0 0 0 0 0) c ≠ 0) 0 (-2, -2, 0, 0, 0) = (0, 0, 0 + 1, 0 + 1, (if (0 : Int32) < 0 + 1 then 0 + 1 else 0)) from if_pos z] at this
    exact this
  · have z := b32_0.mp (Classical.not_not.mp z)
    rw [e1]
    refine watch_loop (d := d) hs hwh hw ho L [] I I2 _ (-2, -2, 0, 0, 0) _ rfl l2 m2 f2 b2 r2 (fun I3 q3 => ?_)
    have := k I3 q3
    unfold watS at this
    rw [show wst (valV (env5 0 0 0 0 0) c ≠ 0) 0 (-2, -2, 0, 0, 0) = (-2, -2, 0, 0, 0) from if_neg z] at this
    exact this
/-! tallies -/
/-- times, sum, most -/
def tal (C : CF) (kd : Nat) : List EV → Nat → Int32 → Int32 → Nat × Int32 × Int32
  | [], n, sm, mo => (n, sm, mo)
  | e :: l, n, sm, mo => if eK e = kd then tal C kd l (n + 1) (sm + (rdE C e).1) (if n = 0 then (rdE C e).1 else if mo < (rdE C e).1 then (rdE C e).1 else mo) else tal C kd l n sm mo
def tsel (what : Nat) (w : Nat × Int32 × Int32) : Int32 := if what = 0 then z32 (w.1 : Int) else if what = 1 then w.2.1 else w.2.2
theorem tally_loop {d : Nat} {D : DY} {K : Int32 → IM → Prop} {C : CF} {L : List EV} {kd fr to what : Nat} (hk : kd < 9) (hwh : what < 3) (ho : ∀ e ∈ L, okEv C e) (hto : to ≤ L.length) : ∀ (g i : Nat) (I0 I : IM) (n : Nat) (sm mo : Int32) (u : PV), i + g = to → n ≤ i → LG 55 I L → FM 63 I D C → QF D I0 I →
    (∀ I2, QF D I0 I2 → K (tsel what (tal C kd ((L.drop i).take g) n sm mo)) I2) →
    Wp GG (d + 4) 151 14 [vR (some 54), vI (z32 (kd : Int)), vI (z32 (fr : Int)), vI (z32 (to : Int)), vI (z32 (what : Int)), vI (z32 (n : Int)), vI sm, vI mo, vI (z32 ((i + 1 : Nat) : Int)), u] [] (mm I D) (qI (mm I0 D) K) := by
  intro g
  induction g with
  | zero =>
    intro i I0 I n sm mo u hi hn hL hM hq k
    have h240 := hL.2.1
    refine s_Store_tallied_14 _ _ _ _ _ _ _ _ _ ((brP_t (by rw [z32_lt] <;> omega)).mpr ?_)
    have kk := k I hq
    obtain rfl | rfl | rfl : what = 0 ∨ what = 1 ∨ what = 2 := by omega
    · exact (brP_f (by decide)).mpr (qI_i kk)
    · exact (brP_t (by decide)).mpr ((brP_f (by decide)).mpr (qI_i kk))
    · exact (brP_t (by decide)).mpr ((brP_t (by decide)).mpr (qI_i kk))
  | succ g ih =>
    intro i I0 I n sm mo u hi hn hL hM hq k
    have h240 := hL.2.1
    obtain ⟨e, he⟩ : ∃ e, L[i]? = some e := ⟨L[i]'(by omega), List.getElem?_eq_getElem (by omega)⟩
    have hoe := ho e (List.mem_of_getElem? he)
    have ed : (L.drop i).take (g + 1) = e :: (L.drop (i + 1)).take g := by
      rw [List.drop_eq_getElem_cons (by omega), List.take_succ_cons]
      congr 1
      rw [List.getElem?_eq_getElem (by omega)] at he
      exact Option.some.inj he
    rw [ed] at k
    have ek : tal C kd (e :: (L.drop (i + 1)).take g) n sm mo = if eK e = kd then tal C kd ((L.drop (i + 1)).take g) (n + 1) (sm + (rdE C e).1) (if n = 0 then (rdE C e).1 else if mo < (rdE C e).1 then (rdE C e).1 else mo) else tal C kd ((L.drop (i + 1)).take g) n sm mo := rfl
    rw [ek] at k
    refine s_Store_tallied_14 _ _ _ _ _ _ _ _ _ ((brP_f (by rw [z32_lt] <;> omega)).mpr ?_)
    rw [hL.1]
    refine (brP_f (by rw [z32_lt] <;> omega)).mpr ?_
    rw [e_lg (d := d + 1) hL he (c := 2) (lit := 2) (by omega) rfl, z32_s]
    refine brP_i (fun q => ?_) (fun q => ?_)
    · have q : ¬ eK e = kd := fun e2 => q (by show z32 (eK e : Int) = _; rw [e2])
      rw [if_neg q] at k
      exact ih (i + 1) I0 I n sm mo u (by omega) (by omega) hL hM hq k
    · have q : eK e = kd := (z32_eN (by have := hoe.2.1; omega) (by omega)).mp (Classical.not_not.mp q)
      rw [if_pos q] at k
      refine c_read (d := d) hL hM he hoe (fun I2 r2 lt2 => ?_)
      rw [e_letter (j := 0) (lit := 0) (by omega) rfl, lt2.1, z32_s]
      refine brP_i (fun z => ?_) (fun z => ?_)
      · have z : n ≠ 0 := fun e2 => z (by rw [e2]; rfl)
        rw [if_neg z] at k
        rw [e_max]
        exact ih (i + 1) I0 I2 (n + 1) _ _ _ (by omega) (by omega) (hL.qf r2.q) (hM.qf r2.q) (hq.tr r2.q) k
      · have z : n = 0 := (z32_eN (m := 0) (by omega) (by omega)).mp (Classical.not_not.mp z)
        rw [if_pos z] at k
        exact ih (i + 1) I0 I2 (n + 1) _ _ _ (by omega) (by omega) (hL.qf r2.q) (hM.qf r2.q) (hq.tr r2.q) k
theorem c_tallied {d : Nat} {I : IM} {D : DY} {K : Int32 → IM → Prop} {C : CF} {L : List EV} {kd i to what : Nat} (hk : kd < 9) (hwh : what < 3) (ho : ∀ e ∈ L, okEv C e) (hto : to ≤ L.length) (hi : i ≤ to) (hL : LG 55 I L) (hM : FM 63 I D C)
    (k : ∀ I2, QF D I I2 → K (tsel what (tal C kd ((L.drop i).take (to - i)) 0 0 (-2000000000))) I2) : CI (d + 4) 151 [vR (some 54), vI (z32 (kd : Int)), vI (z32 ((i + 1 : Nat) : Int)), vI (z32 (to : Int)), vI (z32 (what : Int))] (mm I D) K :=
  s_Store_tallied _ _ _ _ (tally_loop (d := d) hk hwh ho hto (to - i) i I I 0 0 (-2000000000) _ (by omega) (by omega) hL hM QF.rf k)
