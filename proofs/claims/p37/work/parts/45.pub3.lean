/-! The class's calls: upcasters, watches, projections, policies. -/
theorem w_kind8 : spW (sL 8) = kindW := by decide +kernel
theorem absV9 : sL 9 = absV ∧ 0 < absV.length ∧ absV.length ≤ 5 ∧ ∀ x ∈ absV, lowB x = true := by decide +kernel
section
variable {d : Nat} {I : IM} {D : DY}
theorem isF.pf {I2 : IM} {f : Nat} {c : Tx} (h : isF I D f c) (hf : PFr I I2) : isF I2 D f c := h.qf (fun q j h1 _ _ => hf q j (fun e => by omega))
def S_upcast (τ : ST) : ST × Int32 := match allP (tT τ) (upP (tT τ)) with
  | .inr f => (([], tS τ, tI τ), fltV f)
  | .inl x => (([], (upcS (tS τ) x.1 x.2.1 x.2.2).1, tI τ), (upcS (tS τ) x.1 x.2.1 x.2.2).2)
theorem upcS_PQ {σ : SS} {k : Nat} {a b : Tx} : zP (upcS σ k a b).1 = zP σ ∧ zQ (upcS σ k a b).1 = zQ σ := by
  unfold upcS
  split
  all_goals exact ⟨rfl, rfl⟩
theorem p_upcast {τ : ST} {K : Int32 → IM → DY → Prop} (h : RC τ I D) (wf : WF (tS τ)) (k : ∀ I2 D2, FrM I I2 → GD D D2 → RC (S_upcast τ).1 I2 D2 → K (S_upcast τ).2 I2 D2) : AI (d + 100) 73 [vR (some 45)] (mm I D) K := by
  obtain ⟨T, σ, κ⟩ := τ
  have h3 : TP I T := h.2.2.1
  have hz := h.1
  unfold S_upcast at k
  refine s_S_upcast (c_begin h3 (fun I1 f1 P1 => ?_))
  refine c_word (d := d + 93) (j := 8) (h.2.1.fr f1) (by omega) w_kind8 (by decide +kernel) P1 (fun x2 I2 f2 P2 v2 _ => ?_)
  refine c_take (d := d + 98) P2 (by decide) (fun I3 f3 P3 => ?_)
  have g3 := (f1.tr f2).tr f3
  refine c_formula (d := d + 98) (jl := 9) (op := 0) (by omega) (by omega) hz (h.2.1.fr g3) (by omega) absV9.1 absV9.2 P3 (fun I4 D1 x4 z4 k4 f4 P4 F4 => ?_)
  have S4 : SOK I4 := (h.2.1.fr g3).fa f4 hz
  refine c_take (d := d + 98) P4 (by decide) (fun I5 f5 P5 => ?_)
  refine c_formula (d := d + 98) (jl := 9) (op := 0) (by omega) (by omega) (by omega) (S4.fr f5) (by omega) absV9.1 absV9.2 P5 (fun I6 D2 x6 z6 k6 f6 P6 F6 => ?_)
  rw [sq_inl] at P2 P3 P4 P5 P6 F4 F6 v2
  have ep : upP T = bnd (wdP kindW T) (fun k s => bnd (tkP 58 s) (fun _ s => bnd (cP absV 0 s) (fun a s => bnd (tkP 44 s) (fun _ s => bnd (cP absV 0 s) (fun b s => .inl ((k, a, b), s)))))) := rfl
  rw [bnd_v 0, bnd_v (), bnd_v [], bnd_v ()] at ep
  generalize hq1 : wdP kindW T = q1 at *
  generalize hq2 : sq (aft q1) (tkP 58) = q2 at *
  generalize hq3 : sq (aft q2) (cP absV 0) = q3 at *
  generalize hq4 : sq (aft q3) (tkP 44) = q4 at *
  generalize hq5 : sq (aft q4) (cP absV 0) = q5 at *
  obtain ⟨ea, eb⟩ := bnd_inl (q := q5) (f := fun b => (vOf q1 0, vOf q3 [], b))
  rw [← ep] at ea eb
  rw [← ea] at P6
  have hx : DX X46 D D2 (3 + 3) (194 + 194) := (x4.tr x6).mono XL46
  have g6 : PFb I I6 D := ((PFa.tr (X := XL) (c := 0) (s := 0) g3.x.a DX.rf f4).tr x4 (fun q j a b c => (f6 q j a b c).trans (f5.x q j b c))).b
  refine end_go (d := d + 98) P6 (fun x I7 e1 e2 f7 z7 => ?_) (fun f I7 e1 f7 z7 => ?_)
  · obtain ⟨r7, m7⟩ := h.parsed hx g6 f7 z7
    have e1 : allP (tT (T, σ, κ)) (upP (tT (T, σ, κ))) = .inl x := e1
    rw [e1] at k
    obtain ⟨c, c1, rfl⟩ := eb x [] e2
    obtain ⟨a4, s4, b4⟩ := sq_back (hq5.trans c1)
    obtain ⟨a3, s3, b3⟩ := sq_back (hq4.trans b4)
    obtain ⟨a2, s2, b2⟩ := sq_back (hq3.trans b3)
    obtain ⟨a1, s1, b1⟩ := sq_back (hq2.trans b2)
    have hv := v2 a1 s1 b1
    obtain ⟨w1, w2, w3⟩ := upP_wf h3.2.1 e2
    have ek1 : vOf q1 0 = a1 := by rw [b1]; rfl
    have ek3 : vOf q3 [] = a3 := by rw [b3]; rfl
    rw [ek1, ek3] at k
    have w1 : vOf q1 0 < 9 := w1
    rw [ek1] at w1
    have w2 : cWF 3 (vOf q3 []) := w2
    rw [ek3] at w2
    rw [hv]
    have i7 : IMF I6 I7 D2 := fun q j h1 h2 h3 => f7 q j (fun e => by omega)
    have Fa : isF I7 D2 (dZ D) a3 := ((F4 a3 s3 b3).mono x6 XLn (fun q j h1 h2 h3 => (f6 q j h2 (by omega) (fun e => by omega)).trans (f5 q j (fun e => by omega)))).qf i7
    have Fb : isF I7 D2 (dZ D1) c := (F6 c [] c1).qf i7
    have b7 : RB 0 σ I7 D2 := r7.b
    have zd := x6.1
    refine c_addUp (d := d + 93) b7 wf.1 r7.1 w1 Fa Fb w2 w3 (fun I8 D3 u8 x8 b8 => ?_)
    have h33 : TP I7 [] := r7.2.2.1
    refine aI_i rfl (k I8 D3 (m7.tr (fun q j g1 g2 => u8 q j (by have := r7.1; omega) (by omega) (by unfold QFp; omega))) ?_ (r7.setB (x8.mono (fun a q => by unfold X65 at q; unfold X4; omega)) (fun q j g1 g2 g3 => u8 q j g1 (by omega) (fun e => ?_)) (h33.lo (u8 _ _ (by have := r7.1; omega) (by omega) (by unfold QFp; omega)) (fun j => u8 _ _ (by have := r7.1; omega) (by omega) (by unfold QFp; omega))) b8 upcS_PQ.1 upcS_PQ.2))
    · have h1 := hx.1
      have h2 := hx.2.1
      have h3 := hx.2.2.1
      have h4 := x8.1
      have h5 := x8.2.1
      have h6 := x8.2.2.1
      exact ⟨by omega, by omega, by omega, fun q hq => ((x8.2.2.2 q (by omega)).2.2.1).trans (hx.2.2.2 q hq).2.2.1⟩
    · unfold QFp at e
      unfold CSp at g3
      omega
  · obtain ⟨r7, m7⟩ := h.parsed hx g6 f7 z7
    have e1 : allP (tT (T, σ, κ)) (upP (tT (T, σ, κ))) = .inr f := e1
    rw [e1] at k
    rw [flt_e]
    exact aI_i rfl (k I7 D2 m7 (hx.g (by omega) (by omega)) r7)
def S_watch (τ : ST) (s w : Int32) : ST × Int32 := if (0 ≤ s ∧ s ≤ 7) ∧ 0 ≤ w ∧ w ≤ 3 then (match allP (tT τ) (cP okhV 0 (tT τ)) with
  | .inr f => (([], tS τ, tI τ), fltV f)
  | .inl c => (([], tS τ, tI τ), wsel (aN w) (watS (zC (tS τ)) (zL (tS τ)) (aN s) c))) else (τ, -1)
/-! projections -/
def setPJ (σ : SS) (w p : Nat) (x : Option PJ) : SS := wP σ (fun w2 p2 => if w2 = w ∧ p2 = p then x else zP σ w2 p2)
theorem RB.same {o : Nat} {σ σ' : SS} (h : RB o σ I D) (e1 : zL σ' = zL σ) (e2 : zC σ' = zC σ) (e3 : zN σ' = zN σ) (e4 : zA σ' = zA σ) (e7 : zE σ' = zE σ) (e8 : zD σ' = zD σ) (e9 : zV σ' = zV σ) (e10 : zH σ' = zH σ) : RB o σ' I D := by
  unfold RB at h ⊢
  rw [e1, e2, e3, e4, e7, e8, e9, e10]
  exact h
/-- a reference of a slot is set to a projection that lies in no slot, or to none -/
theorem DST.setP {x p : Nat} {v : Option Nat} (h : DST D) (hx : x = 73 ∨ x = 74) (hp : p < 4) (hn : ∀ a y q, v = some a → (y = 73 ∨ y = 74 ∨ y = 99 ∨ y = 100) → q < 4 → dR D y q = some a → y = x ∧ q = p) : DST (dset D x p v) := by
  refine ⟨fun y q z r a hy hz hq hr h1 h2 => ?_, fun y q z r a hy hz hq hr h1 h2 => ?_⟩
  · have h1 : up2 (dR D) x p v y q = some a := h1
    have h2 : up2 (dR D) x p v z r = some a := h2
    by_cases e1 : y = x ∧ q = p
    · by_cases e2 : z = x ∧ r = p
      · omega
      · rw [e1.1, e1.2, up2_eq] at h1
        rw [show up2 (dR D) x p v z r = dR D z r from if_neg e2] at h2
        have := hn a z r h1 hz hr h2
        omega
    · rw [show up2 (dR D) x p v y q = dR D y q from if_neg e1] at h1
      by_cases e2 : z = x ∧ r = p
      · rw [e2.1, e2.2, up2_eq] at h2
        have := hn a y q h2 hy hq h1
        omega
      · rw [show up2 (dR D) x p v z r = dR D z r from if_neg e2] at h2
        exact h.1 y q z r a hy hz hq hr h1 h2
  · have e1 : up2 (dR D) x p v y q = dR D y q := up2_ne (by omega)
    have e2 : up2 (dR D) x p v z r = dR D z r := up2_ne (by omega)
    exact h.2 y q z r a hy hz hq hr (e1 ▸ h1) (e2 ▸ h2)
def X74 (a : Nat) : Prop := a = 73 ∨ a = 74
theorem isP.ds {a x p : Nat} {v : Option Nat} {y : PJ} (h : isP I D a y) (hx : x < 159) : isP I (dset D x p v) a y := by
  have hd : DX (fun q => q = x) D (dset D x p v) 0 0 := DX.set rfl
  exact h.mono hd (fun b hb e => by omega) (fun _ => rfl) (fun _ => rfl) IMF.rf
/-- a slot gets a projection, or none -/
theorem RC.setP {T : Tx} {σ : SS} {κ : Option SS} {w p : Nat} {v : Option Nat} {x : Option PJ} (h : RC (T, σ, κ) I D) (hw : w < 2) (hp : p < 4) (hv : match x with
    | none => v = none
    | some y => ∃ a, v = some a ∧ isP I D a y) (hn : ∀ a y q, v = some a → (y = 73 ∨ y = 74 ∨ y = 99 ∨ y = 100) → q < 4 → dR D y q = some a → y = 73 + w ∧ q = p) : RC (T, setPJ σ w p x, κ) I (dset D (73 + w) p v) := by
  obtain ⟨h1, h2, h3, h4, h5, h6, h7, h8, h9⟩ := h
  have hd : DX (fun q => q = 73 + w) D (dset D (73 + w) p v) 0 0 := DX.set rfl
  refine ⟨h1, h2, h3, h4, ?_, fun w2 p2 g1 g2 => ?_, ?_, ?_, h9.setP (by omega) hp hn⟩
  · exact (h5.mono (by omega) hd (fun a q => by omega) h1 (fun _ _ _ => rfl) IMF.rf).same rfl rfl rfl rfl rfl rfl rfl rfl
  · show PO I _ (73 + w2) p2 (if w2 = w ∧ p2 = p then x else zP σ w2 p2)
    by_cases e : w2 = w ∧ p2 = p
    · rw [if_pos e, e.1, e.2]
      cases x with
      | none =>
        show up2 (dR D) (73 + w) p v (73 + w) p = none
        rw [up2_eq]
        exact hv
      | some y =>
        obtain ⟨a, e1, e2⟩ := hv
        exact ⟨a, by show up2 (dR D) (73 + w) p v (73 + w) p = _; rw [up2_eq]; exact e1, e2.ds (by omega)⟩
    · rw [if_neg e]
      have h0 := h6 w2 p2 g1 g2
      have er : up2 (dR D) (73 + w) p v (73 + w2) p2 = dR D (73 + w2) p2 := if_neg (by omega)
      unfold PO at h0 ⊢
      cases hz : zP σ w2 p2 with
      | none =>
        have hz : zP (tS (T, σ, κ)) w2 p2 = none := hz
        rw [hz] at h0
        exact er.trans h0
      | some y =>
        have hz : zP (tS (T, σ, κ)) w2 p2 = some y := hz
        rw [hz] at h0
        obtain ⟨a, e1, e2⟩ := h0
        exact ⟨a, er.trans e1, e2.ds (by omega)⟩
  · exact h7.mono (by omega) hd (fun a q => by omega) h1 (fun _ _ _ _ _ _ _ => rfl) IMF.rf
  · exact h8.mono h1 hd (fun a q => by omega) (fun _ _ _ _ => rfl)
theorem RC.sl {T : Tx} {σ : SS} {κ : Option SS} {w p : Nat} (h : RC (T, σ, κ) I D) (hw : w < 2) (hp : p < 4) : PO I D (73 + w) p (zP σ w p) := h.2.2.2.2.2.1 w p hw hp
/-- what is new lies in no slot -/
theorem RC.new {τ : ST} {a : Nat} (h : RC τ I D) (ha : ∀ y q, (y = 73 ∨ y = 74 ∨ y = 99 ∨ y = 100) → q < 4 → dR D y q ≠ some a) (x p : Nat) {v : Option Nat} (hv : v = some a) : ∀ b y q, v = some b → (y = 73 ∨ y = 74 ∨ y = 99 ∨ y = 100) → q < 4 → dR D y q = some b → y = x ∧ q = p := fun b y q e hy hq hd => by
  rw [hv] at e
  cases e
  exact absurd hd (ha y q hy hq)
/-- a kept slot's objects lie below what is made next -/
def OLD (D : DY) : Prop := ∀ y q a, (y = 73 ∨ y = 74 ∨ y = 75 ∨ y = 99 ∨ y = 100 ∨ y = 101) → q < 4 → dR D y q = some a → a < dZ D
end
