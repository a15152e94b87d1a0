/-! What the model's rows say of a store. -/
def ZE (q k : Nat) : Prop := (q = 106 ∧ k = 14) ∨ (113 ≤ q ∧ q ≤ 118) ∨ q = 120
def ZC (q k : Nat) : Prop := (q = 106 ∧ k = 22) ∨ q = 119 ∨ (q = 109 ∧ k < 13230) ∨ (q = 110 ∧ k < 54)
def ZS (q : Nat) : Prop := 122 ≤ q ∧ q ≤ 124
def ZP (q k : Nat) : Prop := (135 ≤ q ∧ q ≤ 142) ∨ (q = 109 ∧ 13230 ≤ k ∧ k < 15190) ∨ (q = 110 ∧ 54 ≤ k ∧ k < 62)
def ZQ (q k : Nat) : Prop := (145 ≤ q ∧ q ≤ 154) ∨ (q = 109 ∧ 15190 ≤ k ∧ k < 17150) ∨ (q = 110 ∧ 62 ≤ k ∧ k < 70)
def ZY (q : Nat) : Prop := 155 ≤ q ∧ q ≤ 157
def SNM (G : IM) (S : SN) : Prop := ∀ s, s < 8 → G 122 s = z32 ((S s).length : Int) ∧ (S s).length ≤ 4 ∧ ∀ j x, (S s)[j]? = some x → G 123 (4 * s + j) = z32 (x.1 : Int) ∧ G 124 (4 * s + j) = z32 (x.2 : Int) ∧ x.1 ≤ 240 ∧ x.2 ≤ 27
def CNM (G : IM) (h : Int32) (sl : Nat) (c : Tx) : Prop := (h = 0 ∧ c = [1]) ∨ (h = 1 ∧ FMc G sl (encV c))
def RWM (G : IM) (r : Nat) (o : Option Int32) : Prop := match o with
  | none => G 141 r = 0
  | some v => G 141 r = 1 ∧ G 142 r = v
def PJX (G : IM) (f : Nat) (x : PJ) : Prop := (G 136 f = z32 (jF x : Int) ∧ G 137 f = jM x ∧ G 138 f = z32 (jY x : Int) ∧ CNM G (G 139 f) (54 + f) (jC x) ∧ G 140 f = z32 (jP x : Int)) ∧ (∀ k, k < 9 → RWM G (9 * f + k) (jR x k)) ∧ jF x < 6 ∧ jY x < 3 ∧ jP x ≤ 240 ∧ cWF 3 (jC x)
def PJM (G : IM) (f : Nat) (e : Option PJ) : Prop := match e with
  | none => G 135 f = 0
  | some x => G 135 f = 1 ∧ PJX G f x
def DOM (G : IM) (p : Nat) (cm : Cm) : Prop := G 148 p = z32 (kc cm.1 : Int) ∧ G 151 p = z32 (cm.2.2.1 : Int) ∧ match cm.2.2.2 with
  | none => G 149 p = 0 ∧ G 150 p = z32 cm.2.1
  | some c => G 149 p = 1 ∧ FMc G (62 + 2 * p + 1) (encV c)
def POX (G : IM) (p : Nat) (x : QL) : Prop := (G 146 p = qlM x ∧ CNM G (G 147 p) (62 + 2 * p) (qlC x) ∧ DOM G p (qlK x)) ∧ (G 152 p = z32 (qlP x : Int) ∧ G 153 p = qlD x ∧ G 154 p = qlR x) ∧ okCm (qlK x) ∧ cWF 3 (qlC x) ∧ qlP x ≤ 240
def POM (G : IM) (p : Nat) (e : Option QL) : Prop := match e with
  | none => G 145 p = 0
  | some x => G 145 p = 1 ∧ POX G p x
def SEM (G : IM) (c : Nat) (e : Option (Nat × Nat)) : Prop := match e with
  | none => G 155 c = 0
  | some (s, v) => G 155 c = 1 ∧ G 156 c = z32 (s : Int) ∧ G 157 c = z32 (v : Int) ∧ s < 8 ∧ v ≤ 240
def RMP (P : Nat → Nat → Option PJ) (G : IM) : Prop := (∀ w p, w < 2 → p < 4 → PJM G (2 * p + w) (P w p)) ∧ ∀ p, p < 4 → P 0 p = none → P 1 p = none
def RMQ (Q : Nat → Option QL) (G : IM) : Prop := ∀ p, p < 4 → POM G p (Q p)
def RMY (Y : Nat → Option (Nat × Nat)) (G : IM) : Prop := ∀ c, c < 4 → SEM G c (Y c)
def RMS (σ : SS) (G : IM) : Prop := EVM G (zL σ) ∧ CSM G (zC σ) ∧ SNM G (zN σ) ∧ (∀ k, k < 1000 → G 126 k = zA σ k) ∧ RMP (zP σ) G ∧ RMQ (zQ σ) G ∧ RMY (zE σ) G ∧ (∀ k, k < 7 → G 125 k = zD σ k) ∧ G 106 23 = z32 (zV σ : Int) ∧ G 106 75 = zH σ
theorem EVM.mv {I I2 : IM} {L : List EV} (h : EVM I L) (hf : ∀ q k, ZE q k → I2 q k = I q k) : EVM I2 L := ⟨(hf _ _ (by unfold ZE; omega)).trans h.1, h.2.1, fun i e he c hc => (hf _ _ (by unfold ZE; omega)).trans (h.2.2.1 i e he c hc), fun s hs => (hf _ _ (by unfold ZE; omega)).trans (h.2.2.2 s hs)⟩
theorem CSM.mv {I I2 : IM} {C : CF} (h : CSM I C) (hf : ∀ q k, ZC q k → I2 q k = I q k) : CSM I2 C := ⟨(hf _ _ (by unfold ZC; omega)).trans h.1, fun k hk => (hf _ _ (by unfold ZC; omega)).trans (h.2.1 k hk), h.2.2.1, fun k i c hk he => by
  have hi := h.2.2.1.i3 hk he
  obtain ⟨a, b⟩ := h.2.2.2 k i c hk he
  exact ⟨a.mv (fun j h1 h2 => hf _ _ (by unfold ZC; omega)) (hf _ _ (by unfold ZC; omega)), b.mv (fun j h1 h2 => hf _ _ (by unfold ZC; omega)) (hf _ _ (by unfold ZC; omega))⟩⟩
theorem SNM.mv {I I2 : IM} {S : SN} (h : SNM I S) (hf : ∀ q k, ZS q → I2 q k = I q k) : SNM I2 S := fun s hs => by
  obtain ⟨a, b, c⟩ := h s hs
  refine ⟨(hf _ _ (by unfold ZS; omega)).trans a, b, fun j x hx => ?_⟩
  obtain ⟨e, f, g⟩ := c j x hx
  exact ⟨(hf _ _ (by unfold ZS; omega)).trans e, (hf _ _ (by unfold ZS; omega)).trans f, g⟩
theorem CNM.mv {I I2 : IM} {h : Int32} {sl : Nat} {c : Tx} (hc : CNM I h sl c) (h1 : ∀ k, 245 * sl ≤ k → k < 245 * sl + 245 → I2 109 k = I 109 k) (h2 : I2 110 sl = I 110 sl) : CNM I2 h sl c := by
  rcases hc with c | c
  · exact Or.inl c
  · exact Or.inr ⟨c.1, c.2.mv h1 h2⟩
theorem RWM.mv {I I2 : IM} {r : Nat} {o : Option Int32} (h : RWM I r o) (h1 : I2 141 r = I 141 r) (h2 : I2 142 r = I 142 r) : RWM I2 r o := by
  cases o with
  | none => exact h1.trans h
  | some v => exact ⟨h1.trans h.1, h2.trans h.2⟩
theorem PJX.mv {I I2 : IM} {f : Nat} {x : PJ} (h : PJX I f x) (hf : f < 8) (h1 : ∀ q, 136 ≤ q → q ≤ 140 → I2 q f = I q f) (h2 : ∀ q k, (q = 141 ∨ q = 142) → 9 * f ≤ k → k < 9 * f + 9 → I2 q k = I q k) (h3 : ∀ k, 245 * (54 + f) ≤ k → k < 245 * (54 + f) + 245 → I2 109 k = I 109 k) (h4 : I2 110 (54 + f) = I 110 (54 + f)) : PJX I2 f x := by
  obtain ⟨⟨a, b, c, e, g⟩, r, z⟩ := h
  refine ⟨⟨(h1 _ (by omega) (by omega)).trans a, (h1 _ (by omega) (by omega)).trans b, (h1 _ (by omega) (by omega)).trans c, ?_, (h1 _ (by omega) (by omega)).trans g⟩, fun k hk => (r k hk).mv (h2 _ _ (by omega) (by omega) (by omega)) (h2 _ _ (by omega) (by omega) (by omega)), z⟩
  rw [h1 139 (by omega) (by omega)]
  exact e.mv h3 h4
theorem PJM.mv {I I2 : IM} {f : Nat} {e : Option PJ} (h : PJM I f e) (hf : f < 8) (h1 : ∀ q, 135 ≤ q → q ≤ 140 → I2 q f = I q f) (h2 : ∀ q k, (q = 141 ∨ q = 142) → 9 * f ≤ k → k < 9 * f + 9 → I2 q k = I q k) (h3 : ∀ k, 245 * (54 + f) ≤ k → k < 245 * (54 + f) + 245 → I2 109 k = I 109 k) (h4 : I2 110 (54 + f) = I 110 (54 + f)) : PJM I2 f e := by
  cases e with
  | none => exact (h1 _ (by omega) (by omega)).trans h
  | some x => exact ⟨(h1 _ (by omega) (by omega)).trans h.1, h.2.mv hf (fun q a b => h1 q (by omega) b) h2 h3 h4⟩
theorem RMP.mv {I I2 : IM} {P : Nat → Nat → Option PJ} (h : RMP P I) (hf : ∀ q k, ZP q k → I2 q k = I q k) : RMP P I2 := ⟨fun w p hw hp => (h.1 w p hw hp).mv (by omega) (fun q a b => hf _ _ (by unfold ZP; omega)) (fun q k a b c => hf _ _ (by unfold ZP; omega)) (fun k a b => hf _ _ (by unfold ZP; omega)) (hf _ _ (by unfold ZP; omega)), h.2⟩
theorem DOM.mv {I I2 : IM} {p : Nat} {cm : Cm} (h : DOM I p cm) (h1 : ∀ q, 148 ≤ q → q ≤ 151 → I2 q p = I q p) (h3 : ∀ k, 245 * (62 + 2 * p + 1) ≤ k → k < 245 * (62 + 2 * p + 1) + 245 → I2 109 k = I 109 k) (h4 : I2 110 (62 + 2 * p + 1) = I 110 (62 + 2 * p + 1)) : DOM I2 p cm := by
  obtain ⟨a, b, c⟩ := h
  refine ⟨(h1 _ (by omega) (by omega)).trans a, (h1 _ (by omega) (by omega)).trans b, ?_⟩
  cases hc : cm.2.2.2 with
  | none =>
    rw [hc] at c
    exact ⟨(h1 _ (by omega) (by omega)).trans c.1, (h1 _ (by omega) (by omega)).trans c.2⟩
  | some x =>
    rw [hc] at c
    exact ⟨(h1 _ (by omega) (by omega)).trans c.1, c.2.mv h3 h4⟩
theorem POX.mv {I I2 : IM} {p : Nat} {x : QL} (h : POX I p x) (hp : p < 4) (h1 : ∀ q, 146 ≤ q → q ≤ 154 → I2 q p = I q p) (h3 : ∀ k, 245 * (62 + 2 * p) ≤ k → k < 245 * (62 + 2 * p) + 490 → I2 109 k = I 109 k) (h4 : I2 110 (62 + 2 * p) = I 110 (62 + 2 * p)) (h5 : I2 110 (62 + 2 * p + 1) = I 110 (62 + 2 * p + 1)) : POX I2 p x := by
  obtain ⟨⟨a, b, c⟩, ⟨e, f, g⟩, z⟩ := h
  refine ⟨⟨(h1 _ (by omega) (by omega)).trans a, ?_, c.mv (fun q a b => h1 q (by omega) (by omega)) (fun k a b => h3 k (by omega) (by omega)) h5⟩, ⟨(h1 _ (by omega) (by omega)).trans e, (h1 _ (by omega) (by omega)).trans f, (h1 _ (by omega) (by omega)).trans g⟩, z⟩
  rw [h1 147 (by omega) (by omega)]
  exact b.mv (fun k a b => h3 k (by omega) (by omega)) h4
theorem POM.mv {I I2 : IM} {p : Nat} {e : Option QL} (h : POM I p e) (hp : p < 4) (h1 : ∀ q, 145 ≤ q → q ≤ 154 → I2 q p = I q p) (h3 : ∀ k, 245 * (62 + 2 * p) ≤ k → k < 245 * (62 + 2 * p) + 490 → I2 109 k = I 109 k) (h4 : I2 110 (62 + 2 * p) = I 110 (62 + 2 * p)) (h5 : I2 110 (62 + 2 * p + 1) = I 110 (62 + 2 * p + 1)) : POM I2 p e := by
  cases e with
  | none => exact (h1 _ (by omega) (by omega)).trans h
  | some x => exact ⟨(h1 _ (by omega) (by omega)).trans h.1, h.2.mv hp (fun q a b => h1 q (by omega) b) h3 h4 h5⟩
theorem RMQ.mv {I I2 : IM} {Q : Nat → Option QL} (h : RMQ Q I) (hf : ∀ q k, ZQ q k → I2 q k = I q k) : RMQ Q I2 := fun p hp => (h p hp).mv hp (fun q a b => hf _ _ (by unfold ZQ; omega)) (fun k a b => hf _ _ (by unfold ZQ; omega)) (hf _ _ (by unfold ZQ; omega)) (hf _ _ (by unfold ZQ; omega))
theorem SEM.mv {I I2 : IM} {c : Nat} {e : Option (Nat × Nat)} (h : SEM I c e) (hf : ∀ q, 155 ≤ q → q ≤ 157 → I2 q c = I q c) : SEM I2 c e := by
  rcases e with _ | ⟨s, v⟩
  · exact (hf _ (by omega) (by omega)).trans h
  · exact ⟨(hf _ (by omega) (by omega)).trans h.1, (hf _ (by omega) (by omega)).trans h.2.1, (hf _ (by omega) (by omega)).trans h.2.2.1, h.2.2.2⟩
theorem RMY.mv {I I2 : IM} {Y : Nat → Option (Nat × Nat)} (h : RMY Y I) (hf : ∀ q k, ZY q → I2 q k = I q k) : RMY Y I2 := fun c hc => (h c hc).mv (fun q a b => hf _ _ (by unfold ZY; omega))
theorem RMS.st {σ : SS} {I I2 : IM} (h : RMS σ I) (hf : SFt I I2) : RMS σ I2 := by
  obtain ⟨a, b, c, e, f, g, y, l, v, u⟩ := h
  exact ⟨a.st hf, b.st hf, c.mv (fun q k z => hf q k (by unfold ZS at z; unfold Sc; omega)), fun k hk => (hf _ _ (by unfold Sc; omega)).trans (e k hk), f.mv (fun q k z => hf q k (by unfold ZP at z; unfold Sc; omega)), g.mv (fun q k z => hf q k (by unfold ZQ at z; unfold Sc; omega)), y.mv (fun q k z => hf q k (by unfold ZY at z; unfold Sc; omega)), fun k hk => (hf _ _ (by unfold Sc; omega)).trans (l k hk), (hf _ _ (by unfold Sc; omega)).trans v, (hf _ _ (by unfold Sc; omega)).trans u⟩
/-! the image -/
def ofsM (q : Nat) : Nat := if q = 113 then 4 else if q = 114 then 245 else if q = 115 then 486 else if q = 116 then 727 else if q = 117 then 968 else if q = 118 then 1209 else if q = 119 then 1450 else if q = 120 then 1459 else if q = 122 then 1467 else if q = 123 then 1475 else if q = 124 then 1507 else if q = 126 then 1539 else if q = 125 then 2539
  else if q = 135 then 2546 else if q = 136 then 2554 else if q = 137 then 2562 else if q = 138 then 2570 else if q = 139 then 2578 else if q = 140 then 2586 else if q = 141 then 2594 else if q = 142 then 2666
  else if q = 145 then 2738 else if q = 146 then 2742 else if q = 147 then 2746 else if q = 148 then 2750 else if q = 149 then 2754 else if q = 150 then 2758 else if q = 151 then 2762 else if q = 152 then 2766 else if q = 153 then 2770 else if q = 154 then 2774 else if q = 155 then 2778 else if q = 156 then 2782 else 2786
/-- the memory that an image is -/
def VM (I : IM) : IM := fun q k => if q = 106 then (if k = 14 then I 158 0 else if k = 22 then I 158 1 else if k = 23 then I 158 2 else I 158 3) else if q = 109 then I 109 (k + 19600) else if q = 110 then I 110 (k + 80) else I 158 (ofsM q + k)
def IMP (κ : Option SS) (I : IM) : Prop := match κ with
  | none => I 106 76 = 0
  | some κ => I 106 76 = 1 ∧ RMS κ (VM I)
theorem VM.eq {I I2 : IM} (h1 : ∀ k, I2 158 k = I 158 k) (h2 : ∀ k, 19600 ≤ k → I2 109 k = I 109 k) (h3 : ∀ k, 80 ≤ k → I2 110 k = I 110 k) : VM I2 = VM I := by
  funext q k
  unfold VM
  rw [h1, h1, h1, h1, h1, h2 _ (by omega), h3 _ (by omega)]
theorem IMP.mv {κ : Option SS} {I I2 : IM} (h : IMP κ I) (h0 : I2 106 76 = I 106 76) (h1 : ∀ k, I2 158 k = I 158 k) (h2 : ∀ k, 19600 ≤ k → I2 109 k = I 109 k) (h3 : ∀ k, 80 ≤ k → I2 110 k = I 110 k) : IMP κ I2 := by
  cases κ with
  | none => exact h0.trans h
  | some κ => exact ⟨h0.trans h.1, by rw [VM.eq h1 h2 h3]; exact h.2⟩
theorem IMP.st {κ : Option SS} {I I2 : IM} (h : IMP κ I) (hf : SFt I I2) : IMP κ I2 := h.mv (hf _ _ (by unfold Sc; omega)) (fun k => hf _ _ (by unfold Sc; omega)) (fun k hk => hf _ _ (by unfold Sc; omega)) (fun k hk => hf _ _ (by unfold Sc; omega))
/-- the model's side of a state -/
def RM (τ : ST) (I : IM) : Prop := TPm I (tT τ) ∧ WRD I ∧ RMS (tS τ) I ∧ IMP (tI τ) I
theorem RM.sf {τ : ST} {I I2 : IM} (h : RM τ I) (hf : SFr I I2) : RM τ I2 := ⟨h.1.sf hf, h.2.1.sf hf.t, h.2.2.1.st hf.t, h.2.2.2.st hf.t⟩
theorem RM.tp {τ : ST} {I I2 : IM} {T : Tx} (h : RM τ I) (hf : SFt I I2) (ht : TPm I2 T) : RM (T, tS τ, tI τ) I2 := ⟨ht, h.2.1.sf hf, h.2.2.1.st hf, h.2.2.2.st hf⟩
theorem SFt.c {I I2 : IM} (h : SFt I I2) : FrC I I2 := fun q k e => h q k (by unfold Sc; omega)
theorem SFr.c {I I2 : IM} (h : SFr I I2) : FrC I I2 := h.t.c
theorem FrC.tr {I I2 I3 : IM} (h : FrC I I2) (h2 : FrC I2 I3) : FrC I I3 := fun q k e => (h2 q k e).trans (h q k e)
theorem FrC.up {I : IM} {q k : Nat} {v : Int32} (h : 106 ≤ q ∧ q < 159) : FrC I (up2 I q k v) := fun a j e => up2_ne (by omega)
theorem FrC.rf {I : IM} : FrC I I := fun _ _ _ => rfl
