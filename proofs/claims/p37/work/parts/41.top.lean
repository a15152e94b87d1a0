/-! The class as a whole: tape, store, image. -/
abbrev ST : Type := Tx × SS × Option SS
abbrev tT (τ : ST) : Tx := τ.1
abbrev tS (τ : ST) : SS := τ.2.1
abbrev tI (τ : ST) : Option SS := τ.2.2
def KP (κ : Option SS) (I : IM) (D : DY) : Prop := match κ with
  | none => ∀ y q, (y = 99 ∨ y = 100 ∨ y = 101) → q < 4 → dR D y q = none
  | some κ => RB 26 κ I D ∧ RP 26 κ I D ∧ RQ 26 κ I D
def DST (D : DY) : Prop := (∀ x p y q a, (x = 73 ∨ x = 74 ∨ x = 99 ∨ x = 100) → (y = 73 ∨ y = 74 ∨ y = 99 ∨ y = 100) → p < 4 → q < 4 → dR D x p = some a → dR D y q = some a → x = y ∧ p = q) ∧
  ∀ x p y q a, (x = 75 ∨ x = 101) → (y = 75 ∨ y = 101) → p < 4 → q < 4 → dR D x p = some a → dR D y q = some a → x = y ∧ p = q
def RC (τ : ST) (I : IM) (D : DY) : Prop := 159 ≤ dZ D ∧ SOK I ∧ TP I (tT τ) ∧ I 45 4 = b32 ((tI τ).isSome = true) ∧ RB 0 (tS τ) I D ∧ RP 0 (tS τ) I D ∧ RQ 0 (tS τ) I D ∧ KP (tI τ) I D ∧ DST D
/-- what holds nothing from one call to the next, or is the model's -/
def CSp (D : DY) (q j : Nat) : Prop := q = 46 ∨ q = 47 ∨ q = 48 ∨ q = 49 ∨ q = 50 ∨ q = 53 ∨ q = 58 ∨ q = 62 ∨ q = 67 ∨ q = 79 ∨ (q = 55 ∧ j = 3) ∨ (106 ≤ q ∧ q < 159) ∨ (159 ≤ q ∧ dW D q = 2)
def X4 (a : Nat) : Prop := a = 46 ∨ a = 51 ∨ a = 65 ∨ a = 66
theorem RP.mono {X : Nat → Prop} {o : Nat} {I I2 : IM} {D D2 : DY} {σ : SS} {c s : Nat} (h : RP o σ I D) (ho : o ≤ 26) (hd : DX X D D2 c s) (hX : ∀ a, X a → a < 159 ∧ a ≠ 73 + o ∧ a ≠ 74 + o) (hz : 159 ≤ dZ D) (h1 : ∀ w p a v, w < 2 → p < 4 → dR D (73 + w + o) p = some a → isP I D a v → ∀ k, I2 a k = I a k ∧ I2 (a + 1) k = I (a + 1) k) (h3 : IMF I I2 D) : RP o σ I2 D2 := fun w p hw hp => by
  have h0 := h w p hw hp
  have er := (hd.2.2.2 (73 + w + o) (by omega)).2.2.2 (fun q => by have := hX _ q; omega) p
  have hX2 : ∀ a, 159 ≤ a → ¬ X a := fun a ha q => by have := hX a q; omega
  unfold PO at h0 ⊢
  cases he : zP σ w p with
  | none =>
    rw [he] at h0
    exact er.trans h0
  | some v =>
    rw [he] at h0
    obtain ⟨a, g1, g2⟩ := h0
    exact ⟨a, er.trans g1, g2.mono hd hX2 (fun k => (h1 w p a v hw hp g1 g2 k).1) (fun k => (h1 w p a v hw hp g1 g2 k).2) h3⟩
theorem RQ.mono {X : Nat → Prop} {o : Nat} {I I2 : IM} {D D2 : DY} {σ : SS} {c s : Nat} (h : RQ o σ I D) (ho : o ≤ 26) (hd : DX X D D2 c s) (hX : ∀ a, X a → a < 159 ∧ a ≠ 75 + o) (hz : 159 ≤ dZ D) (h1 : ∀ p a v, p < 4 → dR D (75 + o) p = some a → isQ I D a v → ∀ k, I2 a k = I a k) (h3 : IMF I I2 D) : RQ o σ I2 D2 := fun p hp => by
  have h0 := h p hp
  have er := (hd.2.2.2 (75 + o) (by omega)).2.2.2 (fun q => by have := hX _ q; omega) p
  have hX2 : ∀ a, 159 ≤ a → ¬ X a := fun a ha q => by have := hX a q; omega
  unfold QO at h0 ⊢
  cases he : zQ σ p with
  | none =>
    rw [he] at h0
    exact er.trans h0
  | some v =>
    rw [he] at h0
    obtain ⟨a, g1, g2⟩ := h0
    exact ⟨a, er.trans g1, g2.mono hd hX2 (h1 p a v hp g1 g2) h3⟩
theorem DST.mono {X : Nat → Prop} {D D2 : DY} {c s : Nat} (h : DST D) (hz : 159 ≤ dZ D) (hd : DX X D D2 c s) (hX : ∀ a, X a → a < 73 ∨ (75 < a ∧ a < 99) ∨ 101 < a) : DST D2 := by
  have e : ∀ x p, (x = 73 ∨ x = 74 ∨ x = 75 ∨ x = 99 ∨ x = 100 ∨ x = 101) → dR D2 x p = dR D x p := fun x p hx => (hd.2.2.2 x (by omega)).2.2.2 (fun q => by have := hX _ q; omega) p
  refine ⟨fun x p y q a hx hy hp hq h1 h2 => ?_, fun x p y q a hx hy hp hq h1 h2 => ?_⟩
  · rw [e x p (by omega)] at h1
    rw [e y q (by omega)] at h2
    exact h.1 x p y q a hx hy hp hq h1 h2
  · rw [e x p (by omega)] at h1
    rw [e y q (by omega)] at h2
    exact h.2 x p y q a hx hy hp hq h1 h2
theorem KP.mono {X : Nat → Prop} {I I2 : IM} {D D2 : DY} {κ : Option SS} {c s : Nat} (h : KP κ I D) (hz : 159 ≤ dZ D) (hd : DX X D D2 c s) (hX : ∀ a, X a → a < 80) (hf : ∀ q j, q < dZ D → (80 ≤ q ∧ q < 106) ∨ (159 ≤ q ∧ dW D q ≠ 2) → I2 q j = I q j) : KP κ I2 D2 := by
  cases κ with
  | none => exact fun y q hy hq => ((hd.2.2.2 y (by omega)).2.2.2 (fun e => by have := hX _ e; omega) q).trans (h y q hy hq)
  | some κ =>
    obtain ⟨h1, h2, h3⟩ := h
    have him : IMF I I2 D := fun q j g1 g2 g3 => hf q j g2 (Or.inr (by omega))
    refine ⟨h1.mono (by omega) hd (fun a q => by have := hX a q; omega) hz (fun q j hq => hf q j (by unfold bP at hq; omega) (by unfold bP at hq; omega)) him, h2.mono (by omega) hd (fun a q => by have := hX a q; omega) hz (fun w p a v _ _ _ g k => ?_) him, h3.mono (by omega) hd (fun a q => by have := hX a q; omega) hz (fun p a v _ _ g k => ?_) him⟩
    · obtain ⟨p1, p2, p3, p4, p5, p6, p7, p8⟩ := g.1
      exact ⟨hf a k (by omega) (Or.inr (by omega)), hf (a + 1) k (by omega) (Or.inr (by omega))⟩
    · obtain ⟨p1, p2, p3, p4⟩ := g.1
      exact hf a k (by omega) (Or.inr (by omega))
theorem RC.setB {T T2 : Tx} {σ σ' : SS} {κ : Option SS} {I I2 : IM} {D D2 : DY} {c s : Nat} (h : RC (T, σ, κ) I D) (hd : DX X4 D D2 c s) (hf : ∀ q j, q < dZ D → ¬ (54 ≤ q ∧ q ≤ 79) → ¬ CSp D q j → I2 q j = I q j) (hT : TP I2 T2) (hB : RB 0 σ' I2 D2) (hP : zP σ' = zP σ) (hQ : zQ σ' = zQ σ) : RC (T2, σ', κ) I2 D2 := by
  obtain ⟨h1, h2, h3, h4, h5, h6, h7, h8, h9⟩ := h
  have him : IMF I I2 D := fun q j g1 g2 g3 => hf q j g2 (by omega) (by unfold CSp; omega)
  have hX : ∀ a, X4 a → a < 73 := fun a q => by unfold X4 at q; omega
  have ob : ∀ a, 159 ≤ a → a < dZ D → dW D a ≠ 2 → ∀ k, I2 a k = I a k := fun a g1 g2 g3 k => hf a k g2 (by omega) (by unfold CSp; omega)
  refine ⟨Nat.le_trans h1 hd.1, SOK.mono h2 (fun a ha => funext fun j => hf a j (by omega) (by omega) (by unfold CSp; omega)), hT, (hf 45 4 (by omega) (by omega) (by unfold CSp; omega)).trans h4, hB, ?_, ?_, ?_, h9.mono h1 hd (fun a q => Or.inl (hX a q))⟩
  · have := h6.mono (by omega) hd (fun a q => by have := hX a q; omega) h1 (fun w p a v _ _ _ g k => by
      obtain ⟨p1, p2, p3, p4, p5, p6, p7, p8⟩ := g.1
      exact ⟨ob a (by omega) (by omega) (by omega) k, ob (a + 1) (by omega) (by omega) (by omega) k⟩) him
    intro w p hw hp
    show PO _ _ _ _ (zP σ' w p)
    rw [hP]
    exact this w p hw hp
  · have := h7.mono (by omega) hd (fun a q => by have := hX a q; omega) h1 (fun p a v _ _ g k => by
      obtain ⟨p1, p2, p3, p4⟩ := g.1
      exact ob a (by omega) (by omega) (by omega) k) him
    intro p hp
    show QO _ _ _ _ (zQ σ' p)
    rw [hQ]
    exact this p hp
  · exact h8.mono h1 hd (fun a q => by have := hX a q; omega) (fun q j g1 g2 => hf q j g1 (by omega) (by unfold CSp; omega))
theorem RC.mono {T T2 : Tx} {σ : SS} {κ : Option SS} {I I2 : IM} {D D2 : DY} {c s : Nat} (h : RC (T, σ, κ) I D) (hd : DX X46 D D2 c s) (hf : ∀ q j, q < dZ D → ¬ CSp D q j → I2 q j = I q j) (hT : TP I2 T2) : RC (T2, σ, κ) I2 D2 := by
  have h5 := h.2.2.2.2.1
  have h1 := h.1
  exact h.setB (hd.mono (fun a q => by unfold X46 at q; unfold X4; omega)) (fun q j g1 _ g3 => hf q j g1 g3) hT (h5.mono (by omega) hd (fun a q => by unfold X46 at q; omega) h1 (fun q j hq => hf q j (by unfold bP at hq; omega) (by unfold bP at hq; unfold CSp; omega)) (fun q j g1 g2 g3 => hf q j g2 (by unfold CSp; omega))) rfl rfl
theorem TP.lo {I I2 : IM} {T : Tx} (h : TP I T) (h1 : I2 46 4 = I 46 4) (h2 : ∀ k, I2 47 k = I 47 k) : TP I2 T := ⟨h1.trans h.1, h.2.1, fun k hk => (h2 k).trans (h.2.2.1 k hk), h.2.2.2⟩
theorem TP.nil {I : IM} (h : I 46 4 = 0) : TP I [] := ⟨h, Nat.zero_le _, fun k hk => absurd hk (Nat.not_lt_zero k), fun x hx => by cases hx⟩
/-- asking alone -/
theorem RC.qf {τ : ST} {I I2 : IM} {D : DY} (h : RC τ I D) (hf : QF D I I2) : RC τ I2 D := by
  obtain ⟨T, σ, κ⟩ := τ
  have h3 : TP I T := h.2.2.1
  have h1 := h.1
  exact h.mono (DX.rf (c := 0) (s := 0)) (fun q j g1 g2 => hf q j (fun e => g2 (by unfold QFp at e; unfold CSp; omega))) (h3.lo (hf.at (by omega) (by omega)) (fun k => hf.at (by omega) (by omega)))
/-- the model's rows are as they were -/
def FrM (I I2 : IM) : Prop := ∀ q k, 106 ≤ q → q < 159 → I2 q k = I q k
theorem FrM.rf {I : IM} : FrM I I := fun _ _ _ _ => rfl
theorem FrM.tr {I I2 I3 : IM} (h : FrM I I2) (h2 : FrM I2 I3) : FrM I I3 := fun q k a b => (h2 q k a b).trans (h q k a b)
theorem QF.m {D : DY} {I I2 : IM} (h : QF D I I2) : FrM I I2 := fun q k a b => h.at b (by omega)
/-- the class's rows are as they were -/
def FrC (I I2 : IM) : Prop := ∀ q k, q < 106 ∨ 159 ≤ q → I2 q k = I q k
theorem RC.frc {τ : ST} {I I2 : IM} {D : DY} (h : RC τ I D) (hf : FrC I I2) : RC τ I2 D := by
  obtain ⟨T, σ, κ⟩ := τ
  have h3 : TP I T := h.2.2.1
  exact h.mono (DX.rf (c := 0) (s := 0)) (fun q j g1 g2 => hf q j (by unfold CSp at g2; omega)) (h3.lo (hf _ _ (by omega)) (fun k => hf _ _ (by omega)))
/-- what is so of every store that comes about -/
def VOk (σ : SS) : Prop := ∀ i e, (zL σ)[i]? = some e → eV e = vrS ((zL σ).take (i + 1)) (eS e)
def WF (σ : SS) : Prop := EOk σ ∧ VOk σ ∧ zV σ ≤ 20 ∧ zA σ 0 = 0 ∧ (∀ w p x, w < 2 → p < 4 → zP σ w p = some x → jP x ≤ (zL σ).length) ∧ (∀ p x, p < 4 → zQ σ p = some x → qlP x ≤ (zL σ).length) ∧ ∃ m : Nat, m < 512 ∧ zH σ = z32 (m : Int)
theorem vrS_take {L : List EV} {n s : Nat} : vrS (L.take n) s ≤ vrS L s := List.Sublist.length_le (List.Sublist.filter _ (List.take_sublist n L))
theorem VOk.le {σ : SS} (h : VOk σ) {e : EV} (he : e ∈ zL σ) : eV e ≤ vrS (zL σ) (eS e) := by
  obtain ⟨i, hi⟩ := List.mem_iff_getElem?.mp he
  rw [h i e hi]
  exact vrS_take
/-- an answer of a text that is wrong at that place -/
def fltV (f : Nat) : Int32 := z32 (-100 - (f : Int))
theorem endA {α : Type} {T : Tx} {q : PR α} (h : okC2 T (aft q)) : (∃ a, allP T q = .inl a ∧ q = .inl (a, []) ∧ flC T (endR (aft q)) = -1) ∨ (∃ f : Nat, allP T q = .inr f ∧ f ≤ T.length ∧ flC T (endR (aft q)) = f) := by
  rcases q with ⟨a, s⟩ | m
  · cases s with
    | nil => exact Or.inl ⟨a, rfl, rfl, rfl⟩
    | cons x s =>
      have hl : (x :: s).length ≤ T.length := h.1
      rw [List.length_cons] at hl
      refine Or.inr ⟨T.length - (s.length + 1), rfl, Nat.sub_le _ _, ?_⟩
      show (T.length : Int) - ((s.length + 1 : Nat) : Int) = _
      omega
  · have hm : m ≤ T.length := h
    refine Or.inr ⟨T.length - m, rfl, Nat.sub_le _ _, ?_⟩
    show (T.length : Int) - (m : Int) = _
    omega
theorem PC.ok2 {I : IM} {T : Tx} {r : PS} (h : PC I T r) : okC2 T r := h.2.1
theorem flt_e {f : Nat} : (-100 : Int32) - z32 (f : Int) = fltV f := by
  show z32 (-100) - _ = _
  rw [z32_sub]
  rfl
/-- behind a text: the end, and what then -/
theorem end_go {α : Type} {d : Nat} {I : IM} {D : DY} {T : Tx} {q : PR α} {A : IM → Prop} {B : Int32 → IM → Prop} (h : PC I T (aft q))
    (ka : ∀ a I2, allP T q = .inl a → q = .inl (a, []) → (∀ b j, (b = 46 → j ≠ 4 ∧ j ≠ 5 ∧ j ≠ 6) → I2 b j = I b j) → I2 46 4 = 0 → A I2)
    (kb : ∀ f I2, allP T q = .inr f → (∀ b j, (b = 46 → j ≠ 4 ∧ j ≠ 5 ∧ j ≠ 6) → I2 b j = I b j) → I2 46 4 = 0 → B (z32 (f : Int)) I2) :
    CI (d + 1) 45 [vR (some 46)] (mm I D) (fun x5 I5 => brP (x5 < 0) (A I5) (B x5 I5)) := by
  have hl := h.1.2.1
  refine c_end h (fun x I2 h1 h2 h3 => ?_)
  rcases endA h.ok2 with ⟨a, e1, e2, e3⟩ | ⟨f, e1, e2, e3⟩
  · rw [e3] at h3
    rw [h3]
    exact (brP_t (by decide)).mpr (ka a I2 e1 e2 h1 h2)
  · rw [e3] at h3
    rw [h3]
    exact (brP_f (by rw [z32_0, z32_lt] <;> omega)).mpr (kb f I2 e1 h1 h2)
