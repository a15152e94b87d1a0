/-! image, back; what holds of all that comes about. -/
section
variable {d : Nat} {I : IM} {D : DY}
/-- references of a store, copied, are in no other slot -/
theorem DST.copy {D2 : DY} {o o' : Nat} (h : DST D) (ho : (o = 0 ∧ o' = 26) ∨ (o = 26 ∧ o' = 0)) (hs : ∀ y q, (y = 73 + o' ∨ y = 74 + o' ∨ y = 75 + o') → dR D2 y q = dR D y q) (hold : ∀ y q a, (y = 73 + o' ∨ y = 74 + o' ∨ y = 75 + o') → q < 4 → dR D y q = some a → a < dZ D)
    (hnew : ∀ w p a, w < 3 → p < 4 → dR D2 (73 + w + o) p = some a → dZ D ≤ a) (hd : ∀ w p w' p' a, w < 3 → w' < 3 → p < 4 → p' < 4 → dR D2 (73 + w + o) p = some a → dR D2 (73 + w' + o) p' = some a → w = w' ∧ p = p') : DST D2 := by
  have cls : ∀ y, (y = 73 ∨ y = 74 ∨ y = 75 ∨ y = 99 ∨ y = 100 ∨ y = 101) → (∃ w, w < 3 ∧ y = 73 + w + o) ∨ (y = 73 + o' ∨ y = 74 + o' ∨ y = 75 + o') := fun y hy => by
    by_cases e : y = 73 + o' ∨ y = 74 + o' ∨ y = 75 + o'
    · exact Or.inr e
    · exact Or.inl ⟨y - 73 - o, by omega, by omega⟩
  have both : ∀ y p z r a, (y = 73 ∨ y = 74 ∨ y = 75 ∨ y = 99 ∨ y = 100 ∨ y = 101) → (z = 73 ∨ z = 74 ∨ z = 75 ∨ z = 99 ∨ z = 100 ∨ z = 101) → p < 4 → r < 4 → dR D2 y p = some a → dR D2 z r = some a → (y = z ∧ p = r) ∨ ((y = 73 + o' ∨ y = 74 + o' ∨ y = 75 + o') ∧ (z = 73 + o' ∨ z = 74 + o' ∨ z = 75 + o')) := fun y p z r a hy hz hp hr e1 e2 => by
    rcases cls y hy with ⟨w, w1, rfl⟩ | c1
    · rcases cls z hz with ⟨v, v1, rfl⟩ | c2
      · have := hd w p v r a w1 v1 hp hr e1 e2
        exact Or.inl ⟨by omega, this.2⟩
      · have g1 := hnew w p a w1 hp e1
        rw [hs z r c2] at e2
        have g2 := hold z r a c2 hr e2
        omega
    · rcases cls z hz with ⟨v, v1, rfl⟩ | c2
      · have g1 := hnew v r a v1 hr e2
        rw [hs y p c1] at e1
        have g2 := hold y p a c1 hp e1
        omega
      · exact Or.inr ⟨c1, c2⟩
  refine ⟨fun y p z r a hy hz hp hr e1 e2 => ?_, fun y p z r a hy hz hp hr e1 e2 => ?_⟩
  · rcases both y p z r a (by omega) (by omega) hp hr e1 e2 with e | ⟨c1, c2⟩
    · exact e
    · rw [hs y p c1] at e1
      rw [hs z r c2] at e2
      exact h.1 y p z r a hy hz hp hr e1 e2
  · rcases both y p z r a (by omega) (by omega) hp hr e1 e2 with e | ⟨c1, c2⟩
    · exact e
    · rw [hs y p c1] at e1
      rw [hs z r c2] at e2
      exact h.2 y p z r a hy hz hp hr e1 e2
theorem RP.keep {o : Nat} {σ : SS} {I2 : IM} {D2 : DY} {X : Nat → Prop} {c s : Nat} (h : RP o σ I D) (ho : o ≤ 26) (hd : DX X D D2 c s) (hX : ∀ a, X a → a < 159 ∧ a ≠ 73 + o ∧ a ≠ 74 + o) (hz : 159 ≤ dZ D) (hf : ∀ q j, 159 ≤ q → q < dZ D → I2 q j = I q j) : RP o σ I2 D2 :=
  h.mono ho hd hX hz (fun w p a v _ _ _ g k => by
    obtain ⟨p1, p2, p3, p4, p5, p6, p7, p8⟩ := g.1
    exact ⟨hf a k p1 (by omega), hf (a + 1) k (by omega) p2⟩) (fun q j g1 g2 _ => hf q j g1 g2)
theorem RQ.keep {o : Nat} {σ : SS} {I2 : IM} {D2 : DY} {X : Nat → Prop} {c s : Nat} (h : RQ o σ I D) (ho : o ≤ 26) (hd : DX X D D2 c s) (hX : ∀ a, X a → a < 159 ∧ a ≠ 75 + o) (hz : 159 ≤ dZ D) (hf : ∀ q j, 159 ≤ q → q < dZ D → I2 q j = I q j) : RQ o σ I2 D2 :=
  h.mono ho hd hX hz (fun p a v _ _ g k => by
    obtain ⟨p1, p2, p3, p4⟩ := g.1
    exact hf a k p1 p2) (fun q j g1 g2 _ => hf q j g1 g2)
def S_image (τ : ST) : ST × Int32 := ((tT τ, tS τ, some (tS τ)), z32 ((zL (tS τ)).length : Int))
theorem p_image {τ : ST} {K : Int32 → IM → DY → Prop} (h : RC τ I D) (k : ∀ I2 D2, FrM I I2 → GD D D2 → RC (S_image τ).1 I2 D2 → K (S_image τ).2 I2 D2) : AI (d + 100) 153 [vR (some 45)] (mm I D) K := by
  obtain ⟨T, σ, κ⟩ := τ
  have hold := h.old
  obtain ⟨h1, h2, h3, h4, h5, h6, h7, h8, h9⟩ := h
  have h3 : TP I T := h3
  refine s_S_image (c_copyB (d := d + 94) (κ := σ) h1 h5 h6 h7 (fun I2 D2 x2 f2 b2 p2 q2 n2 m2 => aI_i rfl ?_))
  have lo : ∀ q j, q < 80 → I2 q j = I q j := fun q j hq => f2 q j (by omega) (by unfold wRB; omega)
  have hi : ∀ q j, 159 ≤ q → q < dZ D → I2 q j = I q j := fun q j g1 g2 => f2 q j g2 (by unfold wRB; omega)
  have him : IMF I I2 D := fun q j g1 g2 _ => hi q j g1 g2
  have zz := x2.1
  have e55 : I2 55 4 = z32 ((zL σ).length : Int) := (lo _ _ (by omega)).trans h5.1.1
  rw [e55]
  have g : ∀ q j, q ≠ 45 → up2 I2 45 4 1 q j = I2 q j := fun q j hq => up2_ne hq
  have ig : IMF I2 (up2 I2 45 4 1) D2 := fun q j h1 _ _ => g q j (by omega)
  refine k _ D2 (fun q j g1 g2 => (g q j (by omega)).trans (f2 q j (by omega) (by unfold wRB; omega))) (x2.g (by omega) (by omega)) ⟨by omega, (h2.mono (fun q hq => funext fun j => lo q j (by omega))).mono (fun q hq => funext fun j => g q j (by omega)), ?_, up2_eq, ?_, ?_, ?_, ⟨?_, ?_, ?_⟩, ?_⟩
  · exact (h3.lo (lo _ _ (by omega)) (fun j => lo _ _ (by omega))).lo (g _ _ (by omega)) (fun j => g _ _ (by omega))
  · exact (h5.mono (by omega) x2 (fun a e => by unfold Xe Xd at e; omega) h1 (fun q j hq => lo q j (by unfold bP at hq; omega)) him).fr (fun q j hq => g q j (by unfold bP at hq; omega)) ig
  · have := RP.keep h6 (by omega) x2 (fun a e => by unfold Xe Xd at e; omega) h1 hi
    exact RP.keep this (by omega) (DX.rf (X := fun _ => False) (c := 0) (s := 0)) (fun _ e => e.elim) (by omega) (fun q j h1 _ => g q j (by omega))
  · have := RQ.keep h7 (by omega) x2 (fun a e => by unfold Xe Xd at e; omega) h1 hi
    exact RQ.keep this (by omega) (DX.rf (X := fun _ => False) (c := 0) (s := 0)) (fun _ e => e.elim) (by omega) (fun q j h1 _ => g q j (by omega))
  · exact b2.fr (fun q j hq => g q j (by unfold bP at hq; omega)) ig
  · exact RP.keep p2 (by omega) (DX.rf (X := fun _ => False) (c := 0) (s := 0)) (fun _ e => e.elim) (by omega) (fun q j h1 _ => g q j (by omega))
  · exact RQ.keep q2 (by omega) (DX.rf (X := fun _ => False) (c := 0) (s := 0)) (fun _ e => e.elim) (by omega) (fun q j h1 _ => g q j (by omega))
  · refine h9.copy (o := 26) (o' := 0) (Or.inr ⟨rfl, rfl⟩) (fun y q hy => (x2.2.2.2 y (by omega)).2.2.2 (fun e => by unfold Xe Xd at e; omega) q) (fun y q a hy hq e => ?_) n2 m2
    by_cases c : y = 75
    · exact (hold.2 y q a (by omega) hq e).1
    · have := (hold.1 y q a (by omega) hq e).1
      omega
def S_back (τ : ST) : ST × Int32 := match tI τ with
  | none => (τ, -5)
  | some κ => ((tT τ, κ, some κ), z32 ((zL κ).length : Int))
theorem p_back {τ : ST} {K : Int32 → IM → DY → Prop} (h : RC τ I D) (k : ∀ I2 D2, FrM I I2 → GD D D2 → RC (S_back τ).1 I2 D2 → K (S_back τ).2 I2 D2) : AI (d + 100) 160 [vR (some 45)] (mm I D) K := by
  obtain ⟨T, σ, κ⟩ := τ
  have hold := h.old
  have h' := h
  obtain ⟨h1, h2, h3, h4, h5, h6, h7, h8, h9⟩ := h
  have h3 : TP I T := h3
  have h4 : I 45 4 = b32 (κ.isSome = true) := h4
  have h8 : KP κ I D := h8
  refine s_S_back ?_
  rw [h4]
  cases κ with
  | none => exact (brP_f (fun c => c (b32_f (by decide)))).mpr (aI_i rfl (k I D FrM.rf GD.rf h'))
  | some κ =>
    obtain ⟨k1, k2, k3⟩ := h8
    refine (brP_t (by rw [b32_t (show (some κ).isSome = true from rfl)]; decide)).mpr (c_copyA (d := d + 94) (κ := κ) h1 k1 k2 k3 (fun I2 D2 x2 f2 b2 p2 q2 n2 m2 => aI_i rfl ?_))
    have hi : ∀ q j, 159 ≤ q → q < dZ D → I2 q j = I q j := fun q j g1 g2 => f2 q j g2 (by unfold wRA; omega)
    have lo : ∀ q j, q < 54 ∨ (79 ≤ q ∧ q < 159) → I2 q j = I q j := fun q j hq => f2 q j (by omega) (by unfold wRA; omega)
    have him : IMF I I2 D := fun q j g1 g2 _ => hi q j g1 g2
    have zz := x2.1
    have e55 : I2 55 4 = z32 ((zL κ).length : Int) := b2.1.1
    rw [e55]
    refine k _ D2 (fun q j g1 g2 => lo q j (by omega)) (x2.g (by omega) (by omega)) ⟨by omega, h2.mono (fun q hq => funext fun j => lo q j (by omega)), h3.lo (lo _ _ (by omega)) (fun j => lo _ _ (by omega)), (lo _ _ (by omega)).trans h4, b2, p2, q2, ⟨?_, ?_, ?_⟩, ?_⟩
    · exact k1.mono (by omega) x2 (fun a e => by unfold Xe Xd at e; omega) h1 (fun q j hq => lo q j (by unfold bP at hq; omega)) him
    · exact RP.keep k2 (by omega) x2 (fun a e => by unfold Xe Xd at e; omega) h1 hi
    · exact RQ.keep k3 (by omega) x2 (fun a e => by unfold Xe Xd at e; omega) h1 hi
    · refine h9.copy (o := 0) (o' := 26) (Or.inl ⟨rfl, rfl⟩) (fun y q hy => (x2.2.2.2 y (by omega)).2.2.2 (fun e => by unfold Xe Xd at e; omega) q) (fun y q a hy hq e => ?_) n2 m2
      by_cases c : y = 101
      · exact (hold.2 y q a (by omega) hq e).1
      · have := (hold.1 y q a (by omega) hq e).1
        omega
end
