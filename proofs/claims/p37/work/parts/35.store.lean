/-! The store: what it is, and asking a command. -/
def okCm (k : Cm) : Prop := k.1 < 9 ∧ k.1 ≠ 7 ∧ 0 ≤ k.2.1 ∧ k.2.1 ≤ 999 ∧ k.2.2.1 < 8 ∧ ∀ c, k.2.2.2 = some c → cWF 3 c
/-- kinds, condition, command, checkpoint, done, refused -/
abbrev QL : Type := Int32 × Tx × Cm × Nat × Int32 × Int32
abbrev qlM (x : QL) : Int32 := x.1
abbrev qlC (x : QL) : Tx := x.2.1
abbrev qlK (x : QL) : Cm := x.2.2.1
abbrev qlP (x : QL) : Nat := x.2.2.2.1
abbrev qlD (x : QL) : Int32 := x.2.2.2.2.1
abbrev qlR (x : QL) : Int32 := x.2.2.2.2.2
def isQ (I : IM) (D : DY) (a : Nat) (x : QL) : Prop := (159 ≤ a ∧ a < dZ D ∧ dK D a = 6 ∧ dW D a = 5) ∧ (∃ fo, dR D a 1 = some fo ∧ isF I D fo (qlC x)) ∧ cWF 3 (qlC x) ∧ (∃ co, dR D a 2 = some co ∧ isC I D co (qlK x)) ∧ okCm (qlK x) ∧ (I a 0 = qlM x ∧ I a 3 = z32 (qlP x : Int) ∧ I a 4 = qlD x ∧ I a 5 = qlR x) ∧ qlP x ≤ 240
/-- the log, upcasters, snapshots, answers by numbers, projections (0 live, 1 beside), policies, what was seen, what was led, every, harmless -/
abbrev SS : Type := List EV × CF × SN × (Nat → Int32) × (Nat → Nat → Option PJ) × (Nat → Option QL) × (Nat → Option (Nat × Nat)) × (Nat → Int32) × Nat × Int32
abbrev zL (σ : SS) : List EV := σ.1
abbrev zC (σ : SS) : CF := σ.2.1
abbrev zN (σ : SS) : SN := σ.2.2.1
abbrev zA (σ : SS) : Nat → Int32 := σ.2.2.2.1
abbrev zP (σ : SS) : Nat → Nat → Option PJ := σ.2.2.2.2.1
abbrev zQ (σ : SS) : Nat → Option QL := σ.2.2.2.2.2.1
abbrev zE (σ : SS) : Nat → Option (Nat × Nat) := σ.2.2.2.2.2.2.1
abbrev zD (σ : SS) : Nat → Int32 := σ.2.2.2.2.2.2.2.1
abbrev zV (σ : SS) : Nat := σ.2.2.2.2.2.2.2.2.1
abbrev zH (σ : SS) : Int32 := σ.2.2.2.2.2.2.2.2.2
def wN (σ : SS) (x : SN) : SS := (zL σ, zC σ, x, zA σ, zP σ, zQ σ, zE σ, zD σ, zV σ, zH σ)
def wA (σ : SS) (x : Nat → Int32) : SS := (zL σ, zC σ, zN σ, x, zP σ, zQ σ, zE σ, zD σ, zV σ, zH σ)
def wP (σ : SS) (x : Nat → Nat → Option PJ) : SS := (zL σ, zC σ, zN σ, zA σ, x, zQ σ, zE σ, zD σ, zV σ, zH σ)
def wQ (σ : SS) (x : Nat → Option QL) : SS := (zL σ, zC σ, zN σ, zA σ, zP σ, x, zE σ, zD σ, zV σ, zH σ)
def wE (σ : SS) (x : Nat → Option (Nat × Nat)) : SS := (zL σ, zC σ, zN σ, zA σ, zP σ, zQ σ, x, zD σ, zV σ, zH σ)
def wV (σ : SS) (x : Nat) : SS := (zL σ, zC σ, zN σ, zA σ, zP σ, zQ σ, zE σ, zD σ, x, zH σ)
def wH (σ : SS) (x : Int32) : SS := (zL σ, zC σ, zN σ, zA σ, zP σ, zQ σ, zE σ, zD σ, zV σ, x)
def telS (σ : SS) (k : Nat) : SS := (zL σ, zC σ, zN σ, zA σ, zP σ, zQ σ, zE σ, updF (zD σ) k (zD σ k + 1), zV σ, zH σ)
def seenP (I : IM) (o c : Nat) (e : Option (Nat × Nat)) : Prop := match e with
  | none => I (76 + o) c = -1
  | some (s, v) => I (76 + o) c = z32 (s : Int) ∧ I (77 + o) c = z32 (v : Int) ∧ s < 8 ∧ v ≤ 240
/-- what lies in rows that are there from the beginning -/
def RB (o : Nat) (σ : SS) (I : IM) (D : DY) : Prop := LG (55 + o) I (zL σ) ∧ BN (60 + o) I (stF (zC σ) (zL σ)) ∧ FM (63 + o) I D (zC σ) ∧ SNP (68 + o) I (zN σ) ∧ (∀ k, k < 1000 → I (72 + o) k = zA σ k) ∧ (∀ c, c < 4 → seenP I o c (zE σ c)) ∧ (∀ k, k < 7 → I (78 + o) k = zD σ k) ∧ I (54 + o) 13 = z32 (zV σ : Int) ∧ I (54 + o) 14 = zH σ
def PO (I : IM) (D : DY) (x p : Nat) (e : Option PJ) : Prop := match e with
  | none => dR D x p = none
  | some v => ∃ a, dR D x p = some a ∧ isP I D a v
def QO (I : IM) (D : DY) (x p : Nat) (e : Option QL) : Prop := match e with
  | none => dR D x p = none
  | some v => ∃ a, dR D x p = some a ∧ isQ I D a v
def RP (o : Nat) (σ : SS) (I : IM) (D : DY) : Prop := ∀ w p, w < 2 → p < 4 → PO I D (73 + w + o) p (zP σ w p)
def RQ (o : Nat) (σ : SS) (I : IM) (D : DY) : Prop := ∀ p, p < 4 → QO I D (75 + o) p (zQ σ p)
/-- the rows of a store -/
def bP (o q k : Nat) : Prop := 54 + o ≤ q ∧ q ≤ 78 + o ∧ q ≠ 58 + o ∧ q ≠ 61 + o ∧ q ≠ 62 + o ∧ q ≠ 67 + o ∧ (q = 55 + o → k = 4) ∧ (q = 54 + o → 13 ≤ k)
theorem FM.mono {X : Nat → Prop} {o : Nat} {I I2 : IM} {D D2 : DY} {C : CF} {c s : Nat} (h : FM o I D C) (hd : DX X D D2 c s) (hX : ∀ a, X a → a < 159 ∧ a ≠ o + 2 ∧ a ≠ o + 3) (hz : 159 ≤ dZ D) (ho : 54 ≤ o ∧ o < 150) (h1 : I2 o 4 = I o 4) (h2 : ∀ k, I2 (o + 1) k = I (o + 1) k) (h3 : IMF I I2 D) : FM o I2 D2 C := by
  have hX2 : ∀ a, 159 ≤ a → ¬ X a := fun a ha q => by have := hX a q; omega
  have r2 := (hd.2.2.2 (o + 2) (by omega)).2.2.2 (fun q => by have := hX _ q; omega)
  have r3 := (hd.2.2.2 (o + 3) (by omega)).2.2.2 (fun q => by have := hX _ q; omega)
  have zz := hd.1
  refine ⟨h1.trans h.1, fun k hk => (h2 k).trans (h.2.1 k hk), h.2.2.1, fun k i c hk hc => ?_, fun j b hj hb => ?_⟩
  · obtain ⟨⟨fa, a1, a2⟩, fb, b1, b2⟩ := h.2.2.2.1 k i c hk hc
    exact ⟨⟨fa, (r2 _).trans a1, a2.mono hd hX2 h3⟩, fb, (r3 _).trans b1, b2.mono hd hX2 h3⟩
  · rw [r2, r3] at hb
    obtain ⟨g1, g2, g3⟩ := h.2.2.2.2 j b hj hb
    exact ⟨g1, by omega, ((hd.2.2.2 b g2).1).trans g3⟩
theorem RB.mono {X : Nat → Prop} {o : Nat} {I I2 : IM} {D D2 : DY} {σ : SS} {c s : Nat} (h : RB o σ I D) (ho : o ≤ 26) (hd : DX X D D2 c s) (hX : ∀ a, X a → a < 159 ∧ a ≠ 65 + o ∧ a ≠ 66 + o) (hz : 159 ≤ dZ D) (h1 : ∀ q k, bP o q k → I2 q k = I q k) (h3 : IMF I I2 D) : RB o σ I2 D2 := by
  obtain ⟨a1, a2, a3, a4, a5, a6, a7, a8, a9⟩ := h
  have b : ∀ q k, 54 + o ≤ q ∧ q ≤ 78 + o ∧ q ≠ 58 + o ∧ q ≠ 61 + o ∧ q ≠ 62 + o ∧ q ≠ 67 + o ∧ (q = 55 + o → k = 4) ∧ (q = 54 + o → 13 ≤ k) → I2 q k = I q k := h1
  refine ⟨a1.fr (b _ _ (by omega)) (fun k => b _ _ (by omega)) (fun k => b _ _ (by omega)), a2.fr (fun k => b _ _ (by omega)), a3.mono hd (fun a q => by have := hX a q; omega) hz (by omega) (b _ _ (by omega)) (fun k => b _ _ (by omega)) h3, a4.fr (fun k => b _ _ (by omega)) (fun k => b _ _ (by omega)) (fun k => b _ _ (by omega)),
    fun k hk => (b _ _ (by omega)).trans (a5 k hk), fun c hc => ?_, fun k hk => (b _ _ (by omega)).trans (a7 k hk), (b _ _ (by omega)).trans a8, (b _ _ (by omega)).trans a9⟩
  have := a6 c hc
  unfold seenP at this ⊢
  cases he : zE σ c with
  | none => rw [he] at this; exact (b _ _ (by omega)).trans this
  | some e =>
    obtain ⟨s, v⟩ := e
    rw [he] at this
    obtain ⟨g1, g2, g3, g4⟩ := (this : I (76 + o) c = z32 (s : Int) ∧ I (77 + o) c = z32 (v : Int) ∧ s < 8 ∧ v ≤ 240)
    exact ⟨(b _ _ (by omega)).trans g1, (b _ _ (by omega)).trans g2, g3, g4⟩
theorem isQ.mono {X : Nat → Prop} {I I2 : IM} {D D2 : DY} {a c s : Nat} {x : QL} (h : isQ I D a x) (hd : DX X D D2 c s) (hX : ∀ a, 159 ≤ a → ¬ X a) (h1 : ∀ k, I2 a k = I a k) (h3 : IMF I I2 D) : isQ I2 D2 a x := by
  obtain ⟨⟨p1, p2, p3, p4⟩, ⟨fo, q2, q3⟩, q4, ⟨co, q5, q6⟩, q7, ⟨q8, q9, q10, q11⟩, q12⟩ := h
  obtain ⟨f1, f2, f3, f4⟩ := hd.2.2.2 a p2
  have hz := hd.1
  exact ⟨⟨p1, by omega, f1.trans p3, f3.trans p4⟩, ⟨fo, (f4 (hX a p1) 1).trans q2, q3.mono hd hX h3⟩, q4, ⟨co, (f4 (hX a p1) 2).trans q5, q6.mono hd hX h3⟩, q7, ⟨(h1 _).trans q8, (h1 _).trans q9, (h1 _).trans q10, (h1 _).trans q11⟩, q12⟩
theorem PO.mono {X : Nat → Prop} {I I2 : IM} {D D2 : DY} {x p c s : Nat} {e : Option PJ} (h : PO I D x p e) (hd : DX X D D2 c s) (hX : ∀ a, X a → a < 159 ∧ a ≠ x) (hx : 54 ≤ x ∧ x < dZ D) (h1 : ∀ a, dR D x p = some a → ∀ k, I2 a k = I a k ∧ I2 (a + 1) k = I (a + 1) k) (h3 : IMF I I2 D) : PO I2 D2 x p e := by
  have er := (hd.2.2.2 x hx.2).2.2.2 (fun q => by have := hX _ q; omega) p
  cases e with
  | none => exact er.trans h
  | some v =>
    obtain ⟨a, g1, g2⟩ := h
    exact ⟨a, er.trans g1, g2.mono hd (fun a ha q => by have := hX a q; omega) (fun k => (h1 a g1 k).1) (fun k => (h1 a g1 k).2) h3⟩
theorem QO.mono {X : Nat → Prop} {I I2 : IM} {D D2 : DY} {x p c s : Nat} {e : Option QL} (h : QO I D x p e) (hd : DX X D D2 c s) (hX : ∀ a, X a → a < 159 ∧ a ≠ x) (hx : 54 ≤ x ∧ x < dZ D) (h1 : ∀ a, dR D x p = some a → ∀ k, I2 a k = I a k) (h3 : IMF I I2 D) : QO I2 D2 x p e := by
  have er := (hd.2.2.2 x hx.2).2.2.2 (fun q => by have := hX _ q; omega) p
  cases e with
  | none => exact er.trans h
  | some v =>
    obtain ⟨a, g1, g2⟩ := h
    exact ⟨a, er.trans g1, g2.mono hd (fun a ha q => by have := hX a q; omega) (h1 a g1) h3⟩
/-! asking -/
theorem e_tell {d : Nat} {I : IM} {D : DY} {K : IM → Prop} {k : Nat} {lit : Int32} (hk : k < 7) (hl : lit = z32 (k : Int)) : CV d 47 [vR (some 54), vI lit] (mm I D) K ↔ K (up2 I 78 k (I 78 k + 1)) := by
  subst hl
  refine CV_iff (s_Store_tell _ ((brP_f (by rw [z32_0, z32_lt] <;> omega)).mpr ((brP_f (by show ¬ z32 7 ≤ _; rw [z32_le] <;> omega)).mpr (tsP_i (inB_n hk (by omega)) (tsP_i (inB_n hk (by omega)) ?_)))))
  rw [ix_n (by omega)]
  exact qV_i rfl
/-- what asking a command may change -/
def MF (I I2 : IM) : Prop := ∀ q k, ¬ (q = 55 ∧ k = 4) → q ≠ 56 → q ≠ 57 → q ≠ 60 → q ≠ 69 → q ≠ 70 → q ≠ 71 → q ≠ 78 → I2 q k = I q k
theorem MF.rf {I : IM} : MF I I := fun _ _ _ _ _ _ _ _ _ _ => rfl
theorem MF.tr {I I2 I3 : IM} (h : MF I I2) (h2 : MF I2 I3) : MF I I3 := fun q k a1 a2 a3 a4 a5 a6 a7 a8 => (h2 q k a1 a2 a3 a4 a5 a6 a7 a8).trans (h q k a1 a2 a3 a4 a5 a6 a7 a8)
theorem MF.at {I I2 : IM} (h : MF I I2) {q k : Nat} (hq : q ≠ 55 ∧ q ≠ 56 ∧ q ≠ 57 ∧ q ≠ 60 ∧ q ≠ 69 ∧ q ≠ 70 ∧ q ≠ 71 ∧ q ≠ 78) : I2 q k = I q k := h q k (by omega) (by omega) (by omega) (by omega) (by omega) (by omega) (by omega) (by omega)
theorem MF.im {I I2 : IM} {D : DY} (h : MF I I2) : IMF I I2 D := fun a k h1 _ _ => h.at (by omega)
theorem RB.tell {σ : SS} {I : IM} {D : DY} {k : Nat} (h : RB 0 σ I D) (hk : k < 7) : RB 0 (telS σ k) (up2 I 78 k (I 78 k + 1)) D := by
  obtain ⟨a1, a2, a3, a4, a5, a6, a7, a8, a9⟩ := h
  refine ⟨a1.fr (up2_ne (by omega)) (fun k => up2_ne (by omega)) (fun k => up2_ne (by omega)), a2.fr (fun k => up2_ne (by omega)), a3.fr (up2_ne (by omega)) (fun k => up2_ne (by omega)) (fun a k h1 _ _ => up2_ne (by omega)), a4.fr (fun k => up2_ne (by omega)) (fun k => up2_ne (by omega)) (fun k => up2_ne (by omega)),
    fun j hj => (up2_ne (by omega)).trans (a5 j hj), fun c hc => ?_, fun j hj => ?_, (up2_ne (by omega)).trans a8, (up2_ne (by omega)).trans a9⟩
  · have := a6 c hc
    unfold seenP at this ⊢
    show match zE σ c with
      | none => _
      | some (s, v) => _
    rw [up2_ne (by omega), up2_ne (by omega)]
    exact this
  · show up2 I 78 k _ 78 j = updF (zD σ) k _ j
    have e7 : ∀ j, j < 7 → I 78 j = zD σ j := a7
    by_cases e : j = k
    · subst e
      rw [up2_eq, updF_eq, e7 j hj]
    · rw [up2_nj e, updF_ne e, e7 j hj]
theorem MF.tell {I : IM} {k : Nat} {v : Int32} : MF I (up2 I 78 k v) := fun q j _ _ _ _ _ _ _ h => up2_ne h
/-- an event comes -/
def evN (σ : SS) (s k : Nat) (a b : Int32) : EV := (s, vrS (zL σ) s + 1, k, (zC σ k).length + 1, a, b)
def comS (σ : SS) (s k : Nat) (a b : Int32) : SS := (zL σ ++ [evN σ s k a b], zC σ, (if 0 < zV σ ∧ (vrS (zL σ) s + 1) % zV σ = 0 then addS (zN σ) s (vrS (zL σ) s + 1) (eraC (zC σ)) else zN σ), zA σ, zP σ, zQ σ, zE σ, zD σ, zV σ, zH σ)
theorem rdE_new {σ : SS} {s k : Nat} {a b : Int32} : rdE (zC σ) (evN σ s k a b) = (a, b) := by
  show rdL s ((zC σ k).drop ((zC σ k).length + 1 - 1)) (a, b) = (a, b)
  rw [List.drop_eq_nil_of_le (by omega)]
  rfl
theorem div20 : ∀ v : Nat, v ≤ 240 → ∀ e : Nat, e ≤ 20 → 0 < e → (z32 (v : Int) - z32 (v : Int) / z32 (e : Int) * z32 (e : Int) = 0 ↔ v % e = 0) := by decide +kernel
theorem eraC_le {C : CF} (h : ∀ k, k < 9 → (C k).length ≤ 3) : eraC C ≤ 27 := by
  have : ∀ (l : List Nat) (n : Nat), (∀ k ∈ l, (C k).length ≤ 3) → (l.map (fun k => (C k).length)).foldl (· + ·) n ≤ n + 3 * l.length := by
    intro l
    induction l with
    | nil => intro n _; exact Nat.le_refl _
    | cons x l ih =>
      intro n hl
      have := ih (n + (C x).length) (fun k hk => hl k (List.mem_cons_of_mem _ hk))
      have h3 := hl x List.mem_cons_self
      rw [List.map_cons, List.foldl_cons, List.length_cons]
      omega
  have := this (List.range 9) 0 (fun k hk => h k (List.mem_range.mp hk))
  rw [List.length_range] at this
  unfold eraC
  omega
theorem c_come {d : Nat} {I : IM} {D : DY} {K : IM → Prop} {σ : SS} {s kd : Nat} {a b : Int32} (h : RB 0 σ I D) (hs : s < 8) (hk : kd < 9) (hr : (zL σ).length < 240) (hv : zV σ ≤ 20)
    (k : ∀ I2, MF I I2 → RB 0 (comS σ s kd a b) I2 D → K I2) : CV (d + 3) 54 [vR (some 54), vI (z32 (s : Int)), vI (z32 (kd : Int)), vI a, vI b] (mm I D) K := by
  obtain ⟨a1, a2, a3, a4, a5, a6, a7, a8, a9⟩ := h
  have a8 : I 54 13 = z32 (zV σ : Int) := a8
  have hvr := vrS_le (L := zL σ) (s := s)
  have he27 := eraC_le a3.2.2.1.1
  refine s_Store_come _ _ _ _ ?_
  rw [e_fmt a3 hk]
  refine c_ladd (d := d + 1) a1 hs hr (fun I1 f1 l1 => ?_)
  refine c_bchange (d := d) BB59 (a2.fr (fun j => f1 _ _ (by omega) (by omega) (by omega))) hs hk (fun I2 f2 b2 => ?_)
  have l2 := l1.fr (f2 55 4 (by omega)) (fun j => f2 56 j (by omega)) (fun j => f2 57 j (by omega))
  have ev : vrS (zL σ ++ [(s, vrS (zL σ) s + 1, kd, (zC σ kd).length + 1, a, b)]) s = vrS (zL σ) s + 1 := by rw [vrS_snoc, if_pos rfl]
  rw [e_ver l2 hs, ev]
  have f12 : ∀ q j, (q = 55 → j ≠ 4) → q ≠ 56 → q ≠ 57 → q ≠ 60 → I2 q j = I q j := fun q j h1 h2 h3 h4 => (f2 q j h4).trans (f1 q j h1 h2 h3)
  have m2 : MF I I2 := fun q j h1 h2 h3 h4 _ _ _ _ => f12 q j (fun e e2 => h1 ⟨e, e2⟩) h2 h3 h4
  have eB : BN 60 I2 (stF (zC σ) (zL σ ++ [evN σ s kd a b])) := by
    rw [stF_snoc, rdE_new]
    exact b2
  have a3' : FM 63 I2 D (zC σ) := a3.fr (f12 _ _ (by omega) (by omega) (by omega) (by omega)) (fun k => f12 _ _ (by omega) (by omega) (by omega) (by omega)) m2.im
  have mk : ∀ I3, (∀ q j, q ≠ 69 → q ≠ 70 → q ≠ 71 → I3 q j = I2 q j) → SNP 68 I3 (zN (comS σ s kd a b)) → K I3 := fun I3 f3 n3 => by
    have g : ∀ q j, (q = 55 → j ≠ 4) → q ≠ 56 → q ≠ 57 → q ≠ 60 → q ≠ 69 → q ≠ 70 → q ≠ 71 → I3 q j = I q j := fun q j h1 h2 h3 h4 h5 h6 h7 => (f3 q j h5 h6 h7).trans (f12 q j h1 h2 h3 h4)
    refine k I3 (m2.tr (fun q j _ _ _ _ h5 h6 h7 _ => f3 q j h5 h6 h7)) ⟨l2.fr (f3 _ _ (by omega) (by omega) (by omega)) (fun j => f3 _ _ (by omega) (by omega) (by omega)) (fun j => f3 _ _ (by omega) (by omega) (by omega)), eB.fr (fun j => f3 _ _ (by omega) (by omega) (by omega)),
      a3'.fr (f3 _ _ (by omega) (by omega) (by omega)) (fun j => f3 _ _ (by omega) (by omega) (by omega)) (fun q j hq _ _ => f3 _ _ (by omega) (by omega) (by omega)), n3, fun j hj => (g _ _ (by omega) (by omega) (by omega) (by omega) (by omega) (by omega) (by omega)).trans (a5 j hj), fun c hc => ?_,
      fun j hj => (g _ _ (by omega) (by omega) (by omega) (by omega) (by omega) (by omega) (by omega)).trans (a7 j hj), (g _ _ (by omega) (by omega) (by omega) (by omega) (by omega) (by omega) (by omega)).trans a8, (g _ _ (by omega) (by omega) (by omega) (by omega) (by omega) (by omega) (by omega)).trans a9⟩
    have := a6 c hc
    unfold seenP at this ⊢
    show match zE σ c with
      | none => _
      | some (s, v) => _
    rw [g 76 c (by omega) (by omega) (by omega) (by omega) (by omega) (by omega) (by omega), g 77 c (by omega) (by omega) (by omega) (by omega) (by omega) (by omega) (by omega)]
    exact this
  have e13 : I2 54 13 = z32 (zV σ : Int) := (f12 _ _ (by omega) (by omega) (by omega) (by omega)).trans a8
  have n2 : SNP 68 I2 (zN σ) := a4.fr (fun j => f12 _ _ (by omega) (by omega) (by omega) (by omega)) (fun j => f12 _ _ (by omega) (by omega) (by omega) (by omega)) (fun j => f12 _ _ (by omega) (by omega) (by omega) (by omega))
  rw [e13]
  refine brP_i (fun q => qV_i (mk I2 (fun _ _ _ _ _ => rfl) ?_)) (fun q => ?_)
  · rw [z32_0, z32_le (by omega) (by omega) (by omega) (by omega)] at q
    have : zN (comS σ s kd a b) = zN σ := if_neg (by omega)
    rw [this]
    exact n2
  · rw [z32_0, z32_le (by omega) (by omega) (by omega) (by omega)] at q
    refine tsP_i (by rw [z32_0, z32_inj] <;> omega) (brP_i (fun q2 => qV_i (mk I2 (fun _ _ _ _ _ => rfl) ?_)) (fun q2 => ?_))
    · rw [div20 _ (by omega) _ hv (by omega)] at q2
      have : zN (comS σ s kd a b) = zN σ := if_neg (fun e => q2 e.2)
      rw [this]
      exact n2
    · have q2 := (div20 (vrS (zL σ) s + 1) (by omega) _ hv (by omega)).mp (Classical.not_not.mp q2)
      have e4 : I2 63 4 = z32 (eraC (zC σ) : Int) := a3'.1
      rw [e4]
      refine c_sadd (d := d + 1) n2 hs (by omega) he27 (fun I3 f3 n3 => qV_i (mk I3 f3 ?_))
      have : zN (comS σ s kd a b) = addS (zN σ) s (vrS (zL σ) s + 1) (eraC (zC σ)) := if_pos ⟨by omega, q2⟩
      rw [this]
      exact n3
def evC (k : Cm) : Nat := if k.1 = 6 then 2 else 1
def hapS (σ : SS) (s : Nat) (k : Cm) (amt : Int32) : SS := if k.1 = 6 then comS (comS σ s 6 amt (z32 (k.2.2.1 : Int))) k.2.2.1 7 amt (z32 (s : Int)) else comS σ s k.1 amt 0
/-- a command is asked of a stream: what is then, and its answer -/
def carS (σ : SS) (s : Nat) (k : Cm) (amt : Int32) : SS × Int32 :=
  if refV (stF (zC σ) (zL σ)) s k.1 k.2.2.1 amt = 0 then (if (zL σ).length + evC k ≤ 240 then (telS (hapS σ s k amt) 0, z32 (vrS (zL (hapS σ s k amt)) s : Int)) else (σ, -3))
  else (telS σ 3, -(refV (stF (zC σ) (zL σ)) s k.1 k.2.2.1 amt))
theorem e_evs {d : Nat} {I : IM} {D : DY} {K : Int32 → IM → Prop} {a : Nat} {k : Cm} (h : isC I D a k) (hk : k.1 < 9) : CI d 52 [vR (some a)] (mm I D) K ↔ K (z32 (evC k : Int)) I := by
  refine CI_iff (s_Command_events _ (tsP_i ((mmK h.1).trans h.2.2.1) ?_))
  rw [h.2.2.2.2.1]
  refine brP_i (fun q => qI_i ⟨?_, rfl⟩) (fun q => qI_i ⟨?_, rfl⟩)
  · have : k.1 ≠ 6 := fun e => q (by rw [e]; rfl)
    unfold evC
    rw [if_neg this]
    rfl
  · have : k.1 = 6 := (z32_eN (m := 6) (by omega) (by omega)).mp (Classical.not_not.mp q)
    unfold evC
    rw [if_pos this]
    rfl
theorem isC.mf {I I2 : IM} {D : DY} {a : Nat} {k : Cm} (h : isC I D a k) (hf : IMF I I2 D) : isC I2 D a k := h.mono (X := fun _ => False) (DX.rf (c := 0) (s := 0)) (fun _ _ q => q) hf
theorem refV_le {f : Nat → S4} {s k t : Nat} {amt : Int32} : refV f s k t amt ≤ 0 ↔ refV f s k t amt = 0 := by
  rcases refV_b (f := f) (s := s) (k := k) (t := t) (amt := amt) with h | h | h | h | h | h <;> rw [h] <;> decide
theorem c_carry {d : Nat} {I : IM} {D : DY} {K : Int32 → IM → Prop} {σ : SS} {s a : Nat} {cm : Cm} {amt : Int32} (h : RB 0 σ I D) (hs : s < 8) (hc : isC I D a cm) (ok : okCm cm) (hv : zV σ ≤ 20)
    (k : ∀ I2, MF I I2 → RB 0 (carS σ s cm amt).1 I2 D → K (carS σ s cm amt).2 I2) : CI (d + 4) 49 [vR (some 54), vI (z32 (s : Int)), vR (some a), vI amt] (mm I D) K := by
  have hk2 : ∀ J, pKd (mm J D) a = 2 := fun J => (mmK hc.1).trans hc.2.2.1
  obtain ⟨a1, a2, a3, a4, a5, a6, a7, a8, a9⟩ := id h
  have hl := a1.2.1
  obtain ⟨c1, c2, c3, c4, c5, c6, c7, c8⟩ := id hc
  refine s_Store_carry _ _ _ ?_
  rw [e_refusal (d := d + 2) BB59 a2 hs ok.2.2.2.2.1 ok.1 ok.2.1 (hk2 _) c5 c7]
  refine brP_i (fun q => ?_) (fun q => ?_)
  · have q := refV_le.mp q
    refine onR_i rfl (tsP_i (hk2 _) ?_)
    rw [e_evs hc ok.1, e_room a1]
    have he : evC cm ≤ 2 := by unfold evC; split <;> omega
    refine brP_i (fun q2 => onR_i rfl (tsP_i (hk2 _) ?_)) (fun q2 => qI_i ?_)
    · rw [z32_le (by omega) (by omega) (by omega) (by omega)] at q2
      have ec : carS σ s cm amt = (telS (hapS σ s cm amt) 0, z32 (vrS (zL (hapS σ s cm amt)) s : Int)) := (if_pos q).trans (if_pos (by omega))
      rw [ec] at k
      have fin : ∀ J, MF I J → RB 0 (hapS σ s cm amt) J D → CV (d + 3) 47 [vR (some 54), vI 0] (mm J D) (fun I5 => CI (d + 3) 48 [vR (some 55), vI (z32 (s : Int))] (mm I5 D) (fun x6 I6 => qI (mm I D) K (some (vI x6)) (mm I6 D))) := fun J mJ hJ => by
        rw [e_tell (k := 0) (lit := 0) (by omega) rfl]
        have hT := hJ.tell (k := 0) (by omega)
        have hl2 : LG 55 (up2 J 78 0 (J 78 0 + 1)) (zL (hapS σ s cm amt)) := hT.1
        rw [e_ver hl2 hs]
        exact qI_i (k _ (mJ.tr MF.tell) hT)
      rw [c5]
      refine brP_i (fun q3 => onR_i rfl (tsP_i (hk2 _) ?_)) (fun q3 => onR_i rfl (tsP_i (hk2 _) ?_))
      · have q3 : cm.1 ≠ 6 := fun e => q3 (by rw [e]; rfl)
        rw [c5]
        have e1 : evC cm = 1 := if_neg q3
        refine c_come (d := d) h hs ok.1 (by omega) hv (fun J mJ hJ => fin J mJ ?_)
        unfold hapS
        rw [if_neg q3]
        exact hJ
      · have q3 : cm.1 = 6 := (z32_eN (m := 6) (by have := ok.1; omega) (by omega)).mp (Classical.not_not.mp q3)
        have e2 : evC cm = 2 := if_pos q3
        rw [c7]
        refine c_come (d := d) (kd := 6) h hs (by omega) (by omega) hv (fun J mJ hJ => onR_i rfl (tsP_i (hk2 _) ?_))
        have e7 : J a 2 = z32 (cm.2.2.1 : Int) := (mJ.im (D := D) a 2 c1 c2 c4).trans c7
        rw [e7]
        refine c_come (d := d) (kd := 7) hJ ok.2.2.2.2.1 (by omega) ?_ hv (fun J2 m2 h2 => fin J2 (mJ.tr m2) ?_)
        · show (zL σ ++ [_]).length < 240
          rw [List.length_append, List.length_singleton]
          omega
        · unfold hapS
          rw [if_pos q3]
          exact h2
    · rw [z32_le (by omega) (by omega) (by omega) (by omega)] at q2
      have ec : carS σ s cm amt = (σ, -3) := (if_pos q).trans (if_neg (by omega))
      rw [ec] at k
      exact k I MF.rf h
  · have q : ¬ refV (stF (zC σ) (zL σ)) s cm.1 cm.2.2.1 amt = 0 := fun e => q (refV_le.mpr e)
    have ec : carS σ s cm amt = (telS σ 3, -(refV (stF (zC σ) (zL σ)) s cm.1 cm.2.2.1 amt)) := if_neg q
    rw [ec] at k
    rw [e_tell (k := 3) (lit := 3) (by omega) rfl]
    exact qI_i (k _ MF.tell (h.tell (by omega)))
