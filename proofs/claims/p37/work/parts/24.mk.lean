/-! What is made: formulas, commands. -/
def dmk (D : DY) (c n w : Nat) : DY := (dZ D + 1, dL D + n, up1 (dK D) (dZ D) c, up1 (dN D) (dZ D) n, upr (dR D) (dZ D) none, up1 (dW D) (dZ D) w)
def dset (D : DY) (a j : Nat) (v : Option Nat) : DY := (dZ D, dL D, dK D, dN D, up2 (dR D) a j v, dW D)
theorem setR_m {I : IM} {D : DY} {a j : Nat} {v : Option Nat} (h : isFn a j = false) : setR (mm I D) a j v = mm I (dset D a j v) := setR_mm h
theorem up1_eq {α : Type} {f : Nat → α} {a : Nat} {v : α} : up1 f a v a = v := if_pos rfl
theorem up1_ne {α : Type} {f : Nat → α} {a b : Nat} {v : α} (h : b ≠ a) : up1 f a v b = f b := if_neg h
theorem upr_eq {α : Type} {f : Nat → Nat → α} {a k : Nat} {v : α} : upr f a v a k = v := if_pos rfl
theorem upr_ne {α : Type} {f : Nat → Nat → α} {a b k : Nat} {v : α} (h : b ≠ a) : upr f a v b k = f b k := if_neg h
theorem mk_mm {I : IM} {D : DY} {c n : Nat} (w : Nat) (h : 159 ≤ dZ D) : mkN (mm I D) c n = mm (upr I (dZ D) 0) (dmk D c n w) := by
  have hb : Nat.ble nST (dZ D) = true := Nat.ble_eq_true_of_le h
  have h0 : (0 : Nat) ≠ dZ D := by omega
  unfold mkN mm dmk
  refine Prod.ext rfl (Prod.ext rfl (Prod.ext ?_ (Prod.ext ?_ (Prod.ext rfl ?_))))
  · funext a
    show up1 (fun a => bif Nat.ble nST a then dK D a else kdT a) (dZ D) c a = (bif Nat.ble nST a then up1 (dK D) (dZ D) c a else kdT a)
    by_cases e : a = dZ D
    · subst e
      rw [up1_eq, up1_eq, hb]
      rfl
    · rw [up1_ne e, up1_ne e]
  · funext a
    show up1 (fun a => bif Nat.ble nST a then dN D a else (bif Nat.beq a 0 then dN D 0 else lnT a)) (dZ D) n a = (bif Nat.ble nST a then up1 (dN D) (dZ D) n a else (bif Nat.beq a 0 then up1 (dN D) (dZ D) n 0 else lnT a))
    rw [up1_ne h0]
    by_cases e : a = dZ D
    · subst e
      rw [up1_eq, up1_eq, hb]
      rfl
    · rw [up1_ne e, up1_ne e]
  · funext a k
    show upr (fun a k => bif isFn a k then some (rfT a k) else dR D a k) (dZ D) none a k = (bif isFn a k then some (rfT a k) else upr (dR D) (dZ D) none a k)
    by_cases e : a = dZ D
    · subst e
      rw [upr_eq, upr_eq, isFn_new h]
      rfl
    · rw [upr_ne e, upr_ne e]
theorem can_mk {I : IM} {D : DY} {c n : Nat} {K : IM → DY → Prop} (w : Nat) (h : 159 ≤ dZ D) (k : K (upr I (dZ D) 0) (dmk D c n w)) : CAN (mkN (mm I D) c n) K := ⟨_, _, mk_mm w h, k⟩
/-- what was made stays: so many new places and slots; X: rows of references that may have changed -/
def DX (X : Nat → Prop) (D D2 : DY) (c s : Nat) : Prop := dZ D ≤ dZ D2 ∧ dZ D2 ≤ dZ D + c ∧ dL D2 ≤ dL D + s ∧ ∀ a, a < dZ D → dK D2 a = dK D a ∧ dN D2 a = dN D a ∧ dW D2 a = dW D a ∧ (¬ X a → ∀ j, dR D2 a j = dR D a j)
theorem DX.rf {X : Nat → Prop} {D : DY} {c s : Nat} : DX X D D c s := ⟨Nat.le_refl _, Nat.le_add_right _ _, Nat.le_add_right _ _, fun _ _ => ⟨rfl, rfl, rfl, fun _ _ => rfl⟩⟩
theorem DX.tr {X : Nat → Prop} {D D2 D3 : DY} {c s c2 s2 : Nat} (h : DX X D D2 c s) (h2 : DX X D2 D3 c2 s2) : DX X D D3 (c + c2) (s + s2) := by
  obtain ⟨a1, a2, a3, a4⟩ := h
  obtain ⟨b1, b2, b3, b4⟩ := h2
  refine ⟨by omega, by omega, by omega, fun a ha => ?_⟩
  obtain ⟨c1, c2, c3, c4⟩ := a4 a ha
  obtain ⟨d1, d2, d3, d4⟩ := b4 a (by omega)
  exact ⟨d1.trans c1, d2.trans c2, d3.trans c3, fun hx j => (d4 hx j).trans (c4 hx j)⟩
theorem DX.le {X : Nat → Prop} {D D2 : DY} {c s c2 s2 : Nat} (h : DX X D D2 c s) (h1 : c ≤ c2) (h2 : s ≤ s2) : DX X D D2 c2 s2 := ⟨h.1, Nat.le_trans h.2.1 (by omega), Nat.le_trans h.2.2.1 (by omega), h.2.2.2⟩
theorem DX.mono {X Y : Nat → Prop} {D D2 : DY} {c s : Nat} (h : DX X D D2 c s) (hXY : ∀ a, X a → Y a) : DX Y D D2 c s := ⟨h.1, h.2.1, h.2.2.1, fun a ha => by
  obtain ⟨h1, h2, h3, h4⟩ := h.2.2.2 a ha
  exact ⟨h1, h2, h3, fun q => h4 (fun z => q (hXY a z))⟩⟩
theorem DX.mk {X : Nat → Prop} {D : DY} {c n w : Nat} : DX X D (dmk D c n w) 1 n := ⟨Nat.le_succ _, Nat.le_refl _, Nat.le_refl _, fun a ha => ⟨up1_ne (by omega), up1_ne (by omega), up1_ne (by omega), fun _ j => upr_ne (by omega)⟩⟩
theorem DX.set {X : Nat → Prop} {D : DY} {a j : Nat} {v : Option Nat} (h : X a) : DX X D (dset D a j v) 0 0 := ⟨Nat.le_refl _, Nat.le_refl _, Nat.le_refl _, fun b hb => ⟨rfl, rfl, rfl, fun hx k => up2_ne (fun e => hx (e ▸ h))⟩⟩
/-- a reference of what is newer than D was written -/
theorem DX.setN {X : Nat → Prop} {D D2 : DY} {c s a j : Nat} {v : Option Nat} (h : DX X D D2 c s) (ha : dZ D ≤ a) : DX X D (dset D2 a j v) c s := ⟨h.1, h.2.1, h.2.2.1, fun b hb => by
  obtain ⟨h1, h2, h3, h4⟩ := h.2.2.2 b hb
  exact ⟨h1, h2, h3, fun hx k => (up2_ne (by omega)).trans (h4 hx k)⟩⟩
/-- what is never written again -/
def IMF (I I2 : IM) (D : DY) : Prop := ∀ a k, 159 ≤ a → a < dZ D → dW D a = 1 → I2 a k = I a k
theorem IMF.rf {I : IM} {D : DY} : IMF I I D := fun _ _ _ _ _ => rfl
theorem IMF.tr {X : Nat → Prop} {I I2 I3 : IM} {D D2 : DY} {c s : Nat} (h : IMF I I2 D) (hd : DX X D D2 c s) (h2 : IMF I2 I3 D2) : IMF I I3 D := fun a k h1 h3 h4 => (h2 a k h1 (Nat.lt_of_lt_of_le h3 hd.1) (((hd.2.2.2 a h3).2.2.1).trans h4)).trans (h a k h1 h3 h4)
/-- f is a formula with that code -/
def isF (I : IM) (D : DY) (f : Nat) (c : Tx) : Prop := 159 ≤ f ∧ f < dZ D ∧ dK D f = 4 ∧ c.length ≤ 160 ∧ ∃ ca sa, dR D f 0 = some ca ∧ dR D f 1 = some sa ∧ (159 ≤ ca ∧ ca < dZ D ∧ dK D ca = 20 ∧ dN D ca = c.length ∧ dW D ca = 1) ∧ (159 ≤ sa ∧ sa < dZ D ∧ dK D sa = 20 ∧ dN D sa = 32 ∧ dW D sa = 2) ∧ ∀ k, k < c.length → I ca k = c.getD k 0
theorem isF.mono {X : Nat → Prop} {I I2 : IM} {D D2 : DY} {f c s : Nat} {co : Tx} (h : isF I D f co) (hd : DX X D D2 c s) (hX : ∀ a, 159 ≤ a → ¬ X a) (hi : IMF I I2 D) : isF I2 D2 f co := by
  obtain ⟨h1, h2, h3, h4, ca, sa, r1, r2, ⟨a1, a2, a3, a4, a5⟩, ⟨b1, b2, b3, b4, b5⟩, hc⟩ := h
  have z := hd.1
  obtain ⟨f1, f2, f3, f4⟩ := hd.2.2.2 f h2
  obtain ⟨g1, g2, g3, -⟩ := hd.2.2.2 ca a2
  obtain ⟨i1, i2, i3, -⟩ := hd.2.2.2 sa b2
  exact ⟨h1, by omega, f1.trans h3, h4, ca, sa, (f4 (hX f h1) 0).trans r1, (f4 (hX f h1) 1).trans r2, ⟨a1, by omega, g1.trans a3, g2.trans a4, g3.trans a5⟩, ⟨b1, by omega, i1.trans b3, i2.trans b4, i3.trans b5⟩, fun k hk => (hi ca k a1 a2 a5).trans (hc k hk)⟩
def isC (I : IM) (D : DY) (a : Nat) (k : Cm) : Prop := 159 ≤ a ∧ a < dZ D ∧ dK D a = 2 ∧ dW D a = 1 ∧ I a 0 = z32 (k.1 : Int) ∧ I a 1 = z32 k.2.1 ∧ I a 2 = z32 (k.2.2.1 : Int) ∧ ((k.2.2.2 = none ∧ dR D a 3 = none) ∨ ∃ c f, k.2.2.2 = some c ∧ dR D a 3 = some f ∧ isF I D f c)
theorem isC.mono {X : Nat → Prop} {I I2 : IM} {D D2 : DY} {a c s : Nat} {k : Cm} (h : isC I D a k) (hd : DX X D D2 c s) (hX : ∀ a, 159 ≤ a → ¬ X a) (hi : IMF I I2 D) : isC I2 D2 a k := by
  obtain ⟨h1, h2, h3, h4, h5, h6, h7, h8⟩ := h
  have z := hd.1
  obtain ⟨f1, f2, f3, f4⟩ := hd.2.2.2 a h2
  refine ⟨h1, by omega, f1.trans h3, f3.trans h4, (hi a 0 h1 h2 h4).trans h5, (hi a 1 h1 h2 h4).trans h6, (hi a 2 h1 h2 h4).trans h7, ?_⟩
  rcases h8 with ⟨q1, q2⟩ | ⟨co, f, q1, q2, q3⟩
  · exact Or.inl ⟨q1, (f4 (hX a h1) 3).trans q2⟩
  · exact Or.inr ⟨co, f, q1, (f4 (hX a h1) 3).trans q2, q3.mono hd hX hi⟩
theorem c_copyOf {d : Nat} {I : IM} {D : DY} {K : Option Nat → IM → DY → Prop} {cl : Nat} (w : Nat) (hz : 159 ≤ dZ D) (hc : cl ≤ 160) (k : K (some (dZ D)) (cpI (upr I (dZ D) 0) 48 (dZ D) 0 0 cl) (dmk D 20 cl w)) : AR (d + 1) 43 [vR (some 48), vI (z32 (cl : Int))] (mm I D) K := by
  refine s_Arrays_copyOf _ _ ?_
  rw [onR_some, tsP_iff]
  refine ⟨by show 19 ≤ 20 ∧ 20 < 26; omega, ?_⟩
  have e160 : Int32.ofNat (pLn (mm I D) 48) = z32 160 := rfl
  rw [e160]
  refine brP_i (fun q => ?_) (fun q => ?_)
  · have hne : cl ≠ 160 := fun e => q (by rw [e]; rfl)
    rw [z32_toInt (by omega) (by omega), tsP_iff]
    refine ⟨by omega, ?_⟩
    rw [ix_n (by omega)]
    refine can_mk w hz ?_
    rw [onR_some, tsP_iff]
    refine ⟨by show 19 ≤ 20 ∧ 20 < 26; omega, ?_⟩
    rw [show Int32.ofNat (pLn (mm (upr I (dZ D) 0) (dmk D 20 cl w)) 48) = z32 160 from rfl, e_min, if_pos (by rw [z32_lt] <;> omega), onR_some, tsP_iff]
    have hk : pKd (mm (upr I (dZ D) 0) (dmk D 20 cl w)) (dZ D) = 20 := by rw [mmK hz]; exact up1_eq
    have hl : pLn (mm (upr I (dZ D) 0) (dmk D 20 cl w)) (dZ D) = cl := by rw [mmN hz]; exact up1_eq
    refine ⟨⟨rfl, hk⟩, ?_⟩
    rw [tsP_iff, hl, z32_toInt (n := (cl : Int)) (by omega) (by omega), ix_n (by omega)]
    refine ⟨?_, aR_i rfl k⟩
    have h0 : Int32.toInt 0 = 0 := rfl
    have h48 : pLn (mm (upr I (dZ D) 0) (dmk D 20 cl w)) 48 = 160 := rfl
    rw [h0, h48]
    omega
  · have q := Classical.not_not.mp q
    rw [z32_inj (by omega) (by omega) (by omega) (by omega)] at q
    obtain rfl : cl = 160 := by omega
    rw [onR_some, tsP_iff]
    refine ⟨rfl, ?_⟩
    have e1 : cpyM (mkN (mm I D) kInt (pLn (mm I D) 48)) 48 (pSz (mm I D)) 0 0 (pLn (mm I D) 48) = mm (cpI (upr I (dZ D) 0) 48 (dZ D) 0 0 160) (dmk D 20 160 w) := by
      rw [show pLn (mm I D) 48 = 160 from rfl, mk_mm w hz]
      rfl
    refine ⟨_, _, e1, ?_⟩
    refine tsP_i (by rw [mmK hz]; exact up1_eq) ?_
    exact aR_i rfl k
theorem c_Finit {d : Nat} {I : IM} {D : DY} {K : IM → DY → Prop} {a : Nat} {p : Option Nat} (hz : a < dZ D) (ha : 159 ≤ a) (hk : dK D a = 4) (k : K (upr I (dZ D) 0) (dset (dmk (dset D a 0 p) 20 32 2) a 1 (some (dZ D)))) : AV (d + 1) 44 [vR (some a), vR p] (mm I D) K := by
  refine s_Formula_init _ _ ?_
  rw [tsP_iff]
  refine ⟨by rw [mmK ha]; exact hk, ?_⟩
  rw [setR_m (isFn_new ha)]
  refine can_mk 2 (show 159 ≤ dZ D by omega) ?_
  rw [tsP_iff]
  refine ⟨by rw [mmK ha]; exact (up1_ne (show a ≠ dZ D by omega)).trans hk, ?_⟩
  rw [setR_m (isFn_new ha)]
  exact aV_i rfl k
theorem c_Cinit {d : Nat} {I : IM} {D : DY} {K : IM → DY → Prop} {a : Nat} {p : Option Nat} {x y z : Int32} (ha : 159 ≤ a) (hk : dK D a = 2) (k : K (up2 (up2 (up2 I a 0 x) a 1 y) a 2 z) (dset D a 3 p)) : AV (d + 1) 25 [vR (some a), vI x, vI y, vI z, vR p] (mm I D) K := by
  refine s_Command_init _ _ _ _ _ ?_
  have hk2 : ∀ I : IM, pKd (mm I D) a = 2 := fun I => by rw [mmK ha]; exact hk
  simp only [tsP_iff]
  refine ⟨hk2 _, hk2 _, hk2 _, hk2 _, ?_⟩
  rw [setR_m (isFn_new ha)]
  exact aV_i rfl k
