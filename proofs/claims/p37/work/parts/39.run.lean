/-! Policies run; watches, tallies. -/
def EOk (σ : SS) : Prop := ∀ e ∈ zL σ, okEv (zC σ) e
theorem comS_ok {σ : SS} {s k : Nat} {a b : Int32} (h : EOk σ) (hs : s < 8) (hk : k < 9) : EOk (comS σ s k a b) := fun e he => by
  have he : e ∈ zL σ ++ [evN σ s k a b] := he
  rw [List.mem_append, List.mem_singleton] at he
  rcases he with he | rfl
  · exact h e he
  · exact ⟨hs, hk, by show 1 ≤ (zC σ k).length + 1; omega, Nat.le_refl _⟩
theorem hapS_ok {σ : SS} {s : Nat} {cm : Cm} {amt : Int32} (h : EOk σ) (hs : s < 8) (ok : okCm cm) : EOk (hapS σ s cm amt) := by
  unfold hapS
  split
  · exact comS_ok (comS_ok h hs (by omega)) ok.2.2.2.2.1 (by omega)
  · exact comS_ok h hs ok.1
theorem carS_ok {σ : SS} {s : Nat} {cm : Cm} {amt : Int32} (h : EOk σ) (hs : s < 8) (ok : okCm cm) : EOk (carS σ s cm amt).1 := by
  unfold carS
  repeat' split
  · exact hapS_ok (σ := σ) h hs ok
  · exact h
  · exact h
theorem hndS_ok {σ : SS} {x : QL} {e : EV} (h : EOk σ) (he : eS e < 8) (ok : okCm (qlK x)) : EOk (hndS σ x e).1 ∧ zV (hndS σ x e).1 = zV σ ∧ qlP (hndS σ x e).2.1 = qlP x := by
  unfold hndS
  repeat' split
  · exact ⟨carS_ok h he ok, carS_V, rfl⟩
  · exact ⟨carS_ok h he ok, carS_V, rfl⟩
  · exact ⟨carS_ok h he ok, carS_V, rfl⟩
  · exact ⟨h, rfl, rfl⟩
theorem isQ.cp {I : IM} {D : DY} {a p : Nat} {x : QL} (h : isQ I D a x) (hp : p ≤ 240) : isQ (up2 I a 3 (z32 (p : Int))) D a (setQ x p (qlD x) (qlR x)) := by
  obtain ⟨w1, ⟨wf, w2, w3⟩, w4, ⟨wc, w5, w6⟩, w7, ⟨w8, w9, w10, w11⟩, w12⟩ := h
  have im : IMF I (up2 I a 3 (z32 (p : Int))) D := fun q k _ _ hw => up2_ne (fun c => by rw [c] at hw; omega)
  exact ⟨w1, ⟨wf, w2, w3.qf im⟩, w4, ⟨wc, w5, w6.mf im⟩, w7, ⟨(up2_nj (by omega)).trans w8, up2_eq, (up2_nj (by omega)).trans w10, (up2_nj (by omega)).trans w11⟩, hp⟩
theorem run_loop {d : Nat} {D : DY} {K : Int32 → IM → Prop} {a n : Nat} (hn : n ≤ 240) : ∀ (g i : Nat) (I0 I : IM) (σ : SS) (x : QL), i + g = n → EOk σ → zV σ ≤ 20 → RB 0 σ I D → isQ I D a x → NF D a I0 I →
    (∀ I2, NF D a I0 I2 → RB 0 (ranS g σ x i).1 I2 D → isQ I2 D a (ranS g σ x i).2.1 → K (z32 ((ranS g σ x i).2.2 : Int)) I2) →
    Wp GG (d + 6) 136 2 [vR (some 54), vR (some a), vI (z32 (n : Int)), vI (z32 (i : Int))] [] (mm I D) (qI (mm I0 D) K) := by
  intro g
  induction g with
  | zero =>
    intro i I0 I σ x hi ho hv hR hQ hs k
    exact s_Store_runPolicy_2 _ _ _ ((brP_t (by rw [z32_le] <;> omega)).mpr (qI_i (k I hs hR hQ)))
  | succ g ih =>
    intro i I0 I σ x hi ho hv hR hQ hs k
    have a1 : LG 55 I (zL σ) := hR.1
    have hl := a1.2.1
    have e3 : I a 3 = z32 (qlP x : Int) := hQ.2.2.2.2.2.1.2.1
    have h240 := hQ.2.2.2.2.2.2
    have er : ranS (g + 1) σ x i = (match (zL σ)[qlP x]? with
      | none => (σ, x, i)
      | some e => if (hndS σ x e).2.2 = true then ranS g (hndS σ x e).1 (setQ (hndS σ x e).2.1 (qlP x + 1) (qlD (hndS σ x e).2.1) (qlR (hndS σ x e).2.1)) (i + 1) else ((hndS σ x e).1, (hndS σ x e).2.1, i)) := rfl
    rw [er] at k
    refine s_Store_runPolicy_2 _ _ _ ((brP_f (by rw [z32_le] <;> omega)).mpr (onR_i rfl (tsP_i (hQ.k _) ?_)))
    rw [e3, a1.1]
    refine brP_i (fun q => qI_i ?_) (fun q => onR_i rfl (tsP_i (hQ.k _) ?_))
    · rw [z32_le (by omega) (by omega) (by omega) (by omega)] at q
      rw [List.getElem?_eq_none (by omega)] at k
      exact k I hs hR hQ
    · rw [z32_le (by omega) (by omega) (by omega) (by omega)] at q
      obtain ⟨e, he⟩ : ∃ e, (zL σ)[qlP x]? = some e := ⟨(zL σ)[qlP x]'(by omega), List.getElem?_eq_getElem (by omega)⟩
      rw [he] at k
      dsimp only at k
      have hoe := ho e (List.mem_of_getElem? he)
      obtain ⟨o1, o2, o3⟩ := hndS_ok (x := x) ho hoe.1 hQ.2.2.2.2.1
      rw [e3, z32_s, z32_s]
      refine c_handled (d := d) hR hv he hoe hQ (fun I2 n2 h2 q2 => ?_)
      refine brP_i (fun z => onR_i rfl (tsP_i (hQ.k _) (onR_i rfl (tsP_i (hQ.k _) ?_)))) (fun z => qI_i ?_)
      · have z := Classical.not_not.mp (fun c => z (b32_0.mpr c))
        rw [if_pos z] at k
        have e3' : I2 a 3 = z32 (qlP x : Int) := by rw [q2.2.2.2.2.2.1.2.1, o3]
        rw [e3', z32_s]
        refine ih (i + 1) I0 _ _ _ (by omega) o1 (by rw [o2]; exact hv) ?_ (q2.cp (p := qlP x + 1) (by omega)) (hs.tr (n2.tr (fun q j hq => if_neg (fun c => hq (by omega))))) k
        exact h2.fr (fun q j hq => up2_ne (by have := hQ.1.1; unfold bP at hq; omega)) (fun q j _ _ hw => up2_ne (fun c => by rw [c, hQ.1.2.2.2] at hw; omega))
      · have z := b32_0.mp (Classical.not_not.mp z)
        rw [if_neg z] at k
        exact k I2 (hs.tr n2) h2 q2
theorem c_runPolicy {d : Nat} {I : IM} {D : DY} {K : Int32 → IM → Prop} {σ : SS} {a n : Nat} {x : QL} (hn : n ≤ 240) (ho : EOk σ) (hv : zV σ ≤ 20) (hR : RB 0 σ I D) (hQ : isQ I D a x)
    (k : ∀ I2, NF D a I I2 → RB 0 (ranS n σ x 0).1 I2 D → isQ I2 D a (ranS n σ x 0).2.1 → K (z32 ((ranS n σ x 0).2.2 : Int)) I2) : CI (d + 6) 136 [vR (some 54), vR (some a), vI (z32 (n : Int))] (mm I D) K :=
  s_Store_runPolicy _ _ (run_loop (d := d) hn n 0 I I σ x (by omega) ho hv hR hQ NF.rf k)
/-! watches -/
/-- first, last, times, in a row, longest -/
abbrev W5 : Type := Int32 × Int32 × Int32 × Int32 × Int32
def wst (b : Prop) [Decidable b] (v : Int32) (w : W5) : W5 := if b then ((if w.1 = -2 then v else w.1), v, w.2.2.1 + 1, w.2.2.2.1 + 1, (if w.2.2.2.2 < w.2.2.2.1 + 1 then w.2.2.2.1 + 1 else w.2.2.2.2)) else (w.1, w.2.1, w.2.2.1, 0, w.2.2.2.2)
def wat (C : CF) (s : Nat) (c : Tx) : List EV → S4 → W5 → W5
  | [], _, w => w
  | e :: l, x, w => if eS e = s then wat C s c l (chg (eK e) (rdE C e).1 x) (wst (valV (env5 (chg (eK e) (rdE C e).1 x).1 (chg (eK e) (rdE C e).1 x).2.1 (chg (eK e) (rdE C e).1 x).2.2.1 (chg (eK e) (rdE C e).1 x).2.2.2 (z32 (eV e : Int))) c ≠ 0) (z32 (eV e : Int)) w) else wat C s c l x w
def wsel (what : Nat) (w : W5) : Int32 := if what = 0 then w.1 else if what = 1 then w.2.2.1 else if what = 2 then w.2.2.2.2 else w.2.1
def watS (C : CF) (L : List EV) (s : Nat) (c : Tx) : W5 := wat C s c L (0, 0, 0, 0) (wst (valV (env5 0 0 0 0 0) c ≠ 0) 0 (-2, -2, 0, 0, 0))
/-! tallies -/
/-- times, sum, most -/
def tal (C : CF) (kd : Nat) : List EV → Nat → Int32 → Int32 → Nat × Int32 × Int32
  | [], n, sm, mo => (n, sm, mo)
  | e :: l, n, sm, mo => if eK e = kd then tal C kd l (n + 1) (sm + (rdE C e).1) (if n = 0 then (rdE C e).1 else if mo < (rdE C e).1 then (rdE C e).1 else mo) else tal C kd l n sm mo
def tsel (what : Nat) (w : Nat × Int32 × Int32) : Int32 := if what = 0 then z32 (w.1 : Int) else if what = 1 then w.2.1 else w.2.2
