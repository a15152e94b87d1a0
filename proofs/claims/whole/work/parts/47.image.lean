/-! Images. -/
theorem dR_ne {D : DY} {a j b k : Nat} {v : Option Nat} (h : b ≠ a) : dR (dset D a j v) b k = dR D b k := up2_ne h
theorem cpI_at {I : IM} {a b n k : Nat} (h : k < n) : cpI I a b 0 0 n b k = I a k := by
  unfold cpI
  rw [if_pos ⟨rfl, by omega, by omega⟩, show 0 + (k - 0) = k by omega]
theorem RB.shift {o o' : Nat} {κ : SS} {I I2 : IM} {D D2 : DY} {X : Nat → Prop} {c s : Nat} (h : RB o' κ I D) (hd : DX X D D2 c s) (hX : ∀ a, 159 ≤ a → ¬ X a) (him : IMF I I2 D) (r1 : ∀ j, j < 27 → dR D2 (65 + o) j = dR D (65 + o') j ∧ dR D2 (66 + o) j = dR D (66 + o') j)
    (h55 : I2 (55 + o) 4 = I (55 + o') 4) (h56 : ∀ k, k < 1446 → I2 (56 + o) k = I (56 + o') k) (h57 : ∀ k, k < 8 → I2 (57 + o) k = I (57 + o') k) (h60 : ∀ k, k < 32 → I2 (60 + o) k = I (60 + o') k) (h63 : I2 (63 + o) 4 = I (63 + o') 4) (h64 : ∀ k, k < 9 → I2 (64 + o) k = I (64 + o') k)
    (h69 : ∀ k, k < 32 → I2 (69 + o) k = I (69 + o') k) (h70 : ∀ k, k < 32 → I2 (70 + o) k = I (70 + o') k) (h71 : ∀ k, k < 8 → I2 (71 + o) k = I (71 + o') k) (h72 : ∀ k, k < 1000 → I2 (72 + o) k = I (72 + o') k) (h76 : ∀ k, k < 4 → I2 (76 + o) k = I (76 + o') k) (h77 : ∀ k, k < 4 → I2 (77 + o) k = I (77 + o') k) (h78 : ∀ k, k < 7 → I2 (78 + o) k = I (78 + o') k)
    (h13 : I2 (54 + o) 13 = I (54 + o') 13) (h14 : I2 (54 + o) 14 = I (54 + o') 14) : RB o κ I2 D2 := by
  obtain ⟨⟨l1, l2, l3, l4⟩, a2, ⟨m1, m2, m3, m4, m5⟩, a4, a5, a6, a7, a8, a9⟩ := h
  have e1 : ∀ q, 56 + q = 55 + q + 1 := fun q => by omega
  have e2 : ∀ q, 57 + q = 55 + q + 2 := fun q => by omega
  have zz := hd.1
  refine ⟨⟨h55.trans l1, l2, fun i e he c hc => ?_, fun s hs => ?_⟩, fun s w hs hw => (h60 _ (by omega)).trans (a2 s w hs hw), ⟨h63.trans m1, fun k hk => ?_, m3, fun k i c hk hc => ?_, fun j b hj hb => ?_⟩, fun s hs => ?_, fun k hk => (h72 k hk).trans (a5 k hk), fun c hc => ?_, fun k hk => (h78 k hk).trans (a7 k hk), h13.trans a8, h14.trans a9⟩
  · have hi := lt_of_get he
    rw [← e1, h56 _ (by omega), e1]
    exact l3 i e he c hc
  · rw [← e2, h57 _ hs, e2]
    exact l4 s hs
  · have := h64 k hk
    rw [show 63 + o + 1 = 64 + o by omega, this, show 64 + o' = 63 + o' + 1 by omega]
    exact m2 k hk
  · have hl := m3.1 k hk
    have hi := lt_of_get hc
    obtain ⟨⟨fa, g1, g2⟩, fb, g3, g4⟩ := m4 k i c hk hc
    obtain ⟨q1, q2⟩ := r1 (k * 3 + i) (by omega)
    refine ⟨⟨fa, ?_, g2.mono hd hX him⟩, fb, ?_, g4.mono hd hX him⟩
    · rw [show 63 + o + 2 = 65 + o by omega, q1, show 65 + o' = 63 + o' + 2 by omega]
      exact g1
    · rw [show 63 + o + 3 = 66 + o by omega, q2, show 66 + o' = 63 + o' + 3 by omega]
      exact g3
  · obtain ⟨q1, q2⟩ := r1 j hj
    rw [show 63 + o + 2 = 65 + o by omega, show 63 + o + 3 = 66 + o by omega, q1, q2, show 65 + o' = 63 + o' + 2 by omega, show 66 + o' = 63 + o' + 3 by omega] at hb
    obtain ⟨g1, g2, g3⟩ := m5 j b hj hb
    exact ⟨g1, by omega, ((hd.2.2.2 b g2).1).trans g3⟩
  · obtain ⟨g1, g2, g3⟩ := a4 s hs
    refine ⟨?_, g2, fun j x hx => ?_⟩
    · rw [show 68 + o + 3 = 71 + o by omega, h71 s hs, show 71 + o' = 68 + o' + 3 by omega]
      exact g1
    · have hj := lt_of_get hx
      obtain ⟨g4, g5, g6⟩ := g3 j x hx
      rw [show 68 + o + 1 = 69 + o by omega, show 68 + o + 2 = 70 + o by omega, h69 _ (by omega), h70 _ (by omega), show 69 + o' = 68 + o' + 1 by omega, show 70 + o' = 68 + o' + 2 by omega]
      exact ⟨g4, g5, g6⟩
  · have := a6 c hc
    unfold seenP at this ⊢
    rw [h76 c hc, h77 c hc]
    exact this
def Xd (o a : Nat) : Prop := a = 46 ∨ a = 73 + o ∨ a = 74 + o ∨ a = 75 + o
def Xe (o a : Nat) : Prop := Xd o a ∨ a = 65 + o ∨ a = 66 + o
/-- some slots of a store were copied: w 0 live, 1 beside, 2 policies -/
def INV (o : Nat) (κ : SS) (D0 : DY) (I0 : IM) (cc ss : Nat) (dn : Nat → Nat → Prop) (I : IM) (D : DY) : Prop := DX (Xd o) D0 D cc ss ∧ (∀ a k, a < dZ D0 → I a k = I0 a k) ∧ (∀ w p, w < 2 → dn w p → PO I D (73 + w + o) p (zP κ w p)) ∧ (∀ p, dn 2 p → QO I D (75 + o) p (zQ κ p)) ∧
  (∀ w p a, w < 3 → dn w p → dR D (73 + w + o) p = some a → dZ D0 ≤ a ∧ a < dZ D) ∧ ∀ w p w' p' a, w < 3 → w' < 3 → dn w p → dn w' p' → dR D (73 + w + o) p = some a → dR D (73 + w' + o) p' = some a → w = w' ∧ p = p'
theorem isQ.ds {I : IM} {D : DY} {a x p : Nat} {v : Option Nat} {y : QL} (h : isQ I D a y) (hx : x < 159) : isQ I (dset D x p v) a y := by
  have hd : DX (fun q => q = x) D (dset D x p v) 0 0 := DX.set rfl
  exact h.mono hd (fun b hb e => by omega) (fun _ => rfl) IMF.rf
/-- one slot more -/
theorem INV.set {o : Nat} {κ : SS} {D0 : DY} {I0 I : IM} {cc ss : Nat} {dn : Nat → Nat → Prop} {D : DY} {w p : Nat} {v : Option Nat} (h : INV o κ D0 I0 cc ss dn I D) (ho : o ≤ 26) (hw : w < 3) (hnd : ¬ dn w p) (hv1 : w < 2 → (match zP κ w p with
    | none => v = none
    | some x => ∃ a, v = some a ∧ isP I D a x)) (hv2 : w = 2 → (match zQ κ p with
    | none => v = none
    | some x => ∃ a, v = some a ∧ isQ I D a x)) (hn : ∀ a, v = some a → dZ D0 ≤ a ∧ a < dZ D ∧ ∀ w' p' , w' < 3 → dn w' p' → dR D (73 + w' + o) p' ≠ some a) :
    INV o κ D0 I0 cc ss (fun w' p' => dn w' p' ∨ (w' = w ∧ p' = p)) I (dset D (73 + w + o) p v) := by
  obtain ⟨h1, h2, h3, h4, h5, h6⟩ := h
  have er : ∀ w' p', ¬ (w' = w ∧ p' = p) → dR (dset D (73 + w + o) p v) (73 + w' + o) p' = dR D (73 + w' + o) p' := fun w' p' e => if_neg (fun c => e ⟨by omega, c.2⟩)
  have ee : dR (dset D (73 + w + o) p v) (73 + w + o) p = v := dR_s
  refine ⟨(h1.tr (DX.set (X := Xd o) (D := D) (a := 73 + w + o) (j := p) (v := v) (by unfold Xd; omega))), h2, fun w' p' g1 g2 => ?_, fun p' g2 => ?_, fun w' p' a g1 g2 g3 => ?_, fun w1 p1 w2 p2 a g1 g2 g3 g4 g5 g6 => ?_⟩
  · by_cases e : w' = w ∧ p' = p
    · obtain ⟨rfl, rfl⟩ := e
      have := hv1 g1
      unfold PO
      cases hz : zP κ w' p' with
      | none => rw [hz] at this; exact ee.trans this
      | some x =>
        rw [hz] at this
        obtain ⟨a, e1, e2⟩ := this
        exact ⟨a, ee.trans e1, e2.ds (by omega)⟩
    · have g2 : dn w' p' := g2.elim id (fun c => absurd c e)
      have h0 := h3 w' p' g1 g2
      unfold PO at h0 ⊢
      cases hz : zP κ w' p' with
      | none => rw [hz] at h0; exact (er w' p' e).trans h0
      | some x =>
        rw [hz] at h0
        obtain ⟨a, e1, e2⟩ := h0
        exact ⟨a, (er w' p' e).trans e1, e2.ds (by omega)⟩
  · by_cases e : 2 = w ∧ p' = p
    · obtain ⟨rfl, rfl⟩ := e
      have := hv2 rfl
      unfold QO
      cases hz : zQ κ p' with
      | none => rw [hz] at this; exact ee.trans this
      | some x =>
        rw [hz] at this
        obtain ⟨a, e1, e2⟩ := this
        exact ⟨a, ee.trans e1, e2.ds (by omega)⟩
    · have g2 : dn 2 p' := g2.elim id (fun c => absurd c e)
      have h0 := h4 p' g2
      unfold QO at h0 ⊢
      cases hz : zQ κ p' with
      | none => rw [hz] at h0; exact (er 2 p' e).trans h0
      | some x =>
        rw [hz] at h0
        obtain ⟨a, e1, e2⟩ := h0
        exact ⟨a, (er 2 p' e).trans e1, e2.ds (by omega)⟩
  · by_cases e : w' = w ∧ p' = p
    · rw [e.1, e.2, ee] at g3
      exact ⟨(hn a g3).1, (hn a g3).2.1⟩
    · rw [er w' p' e] at g3
      exact h5 w' p' a g1 (g2.elim id (fun c => absurd c e)) g3
  · by_cases e : w1 = w ∧ p1 = p
    · by_cases f : w2 = w ∧ p2 = p
      · omega
      · rw [e.1, e.2, ee] at g5
        rw [er w2 p2 f] at g6
        exact absurd g6 ((hn a g5).2.2 w2 p2 g2 (g4.elim id (fun c => absurd c f)))
    · rw [er w1 p1 e] at g5
      by_cases f : w2 = w ∧ p2 = p
      · rw [f.1, f.2, ee] at g6
        exact absurd g5 ((hn a g6).2.2 w1 p1 g1 (g3.elim id (fun c => absurd c e)))
      · rw [er w2 p2 f] at g6
        exact h6 w1 p1 w2 p2 a g1 g2 (g3.elim id (fun c => absurd c e)) (g4.elim id (fun c => absurd c f)) g5 g6
/-- something new was made -/
theorem INV.mk {o : Nat} {κ : SS} {D0 : DY} {I0 I I2 : IM} {cc ss c s : Nat} {dn : Nat → Nat → Prop} {D D2 : DY} (h : INV o κ D0 I0 cc ss dn I D) (ho : o ≤ 26) (hz0 : 159 ≤ dZ D0) (hd : DX XL D D2 c s) (hf : ∀ b j, b < dZ D → I2 b j = I b j) : INV o κ D0 I0 (cc + c) (ss + s) dn I2 D2 := by
  obtain ⟨h1, h2, h3, h4, h5, h6⟩ := h
  have zz := h1.1
  have z2 := hd.1
  have er : ∀ w p, w < 3 → dR D2 (73 + w + o) p = dR D (73 + w + o) p := fun w p hw => (hd.2.2.2 _ (by omega)).2.2.2 (fun e => by have e : 73 + w + o = 46 := e; omega) p
  have him : IMF I I2 D := fun q j _ g _ => hf q j g
  refine ⟨h1.tr (hd.mono (fun a e => Or.inl e)), fun a k ha => (hf a k (by omega)).trans (h2 a k ha), fun w p g1 g2 => ?_, fun p g2 => ?_, fun w p a g1 g2 g3 => ?_, fun w1 p1 w2 p2 a g1 g2 g3 g4 g5 g6 => ?_⟩
  · exact (h3 w p g1 g2).mono hd (fun a e => by have e : a = 46 := e; omega) (by omega) (fun a ha j => by
      have := (h3 w p g1 g2).old ha
      exact ⟨hf _ _ (by omega), hf _ _ (by omega)⟩) him
  · exact (h4 p g2).mono hd (fun a e => by have e : a = 46 := e; omega) (by omega) (fun a ha j => hf _ _ ((h4 p g2).old ha).1) him
  · rw [er w p g1] at g3
    have := h5 w p a g1 g2 g3
    omega
  · rw [er w1 p1 g1] at g5
    rw [er w2 p2 g2] at g6
    exact h6 w1 p1 w2 p2 a g1 g2 g3 g4 g5 g6
theorem c_qcopy {d : Nat} {I : IM} {D : DY} {K : Option Nat → IM → DY → Prop} {a : Nat} {x : QL} (h : isQ I D a x) (hz : 159 ≤ dZ D) (k : ∀ I2 D2, DX XL D D2 1 6 → dZ D2 = dZ D + 1 → (∀ b j, b < dZ D → I2 b j = I b j) → isQ I2 D2 (dZ D) x → K (some (dZ D)) I2 D2) :
    AR (d + 2) 159 [vR (some a)] (mm I D) K := by
  obtain ⟨⟨p1, p2, p3, p4⟩, ⟨fo, q2, q3⟩, q4, ⟨co, q5, q6⟩, q7, ⟨q8, q9, q10, q11⟩, q12⟩ := h
  refine s_Policy_copy _ (can_mk 5 hz ?_)
  have hk : ∀ J, pKd (mm J (dmk D 6 6 5)) a = 6 := fun J => (mmK p1).trans ((up1_ne (by omega)).trans p3)
  have hkn : ∀ J, pKd (mm J (dmk D 6 6 5)) (dZ D) = 6 := fun J => (mmK hz).trans up1_eq
  refine tsP_i (hk _) (tsP_i (hk _) (tsP_i (hk _) (tsP_i (hkn _) ?_)))
  rw [show pR (mm (upr I (dZ D) 0) (dmk D 6 6 5)) a 1 = some fo from (mmR (isFn_new p1)).trans ((upr_ne (by omega)).trans q2), show pR (mm (upr I (dZ D) 0) (dmk D 6 6 5)) a 2 = some co from (mmR (isFn_new p1)).trans ((upr_ne (by omega)).trans q5)]
  refine c_Qinit hz up1_eq ?_
  generalize hD2 : dset (dset (dmk D 6 6 5) (dZ D) 1 (some fo)) (dZ D) 2 (some co) = D2
  have hdx : DX XL D D2 1 6 := by
    rw [← hD2]
    exact ((DX.mk (X := XL) (D := D) (c := 6) (n := 6) (w := 5)).setN (a := dZ D) (j := 1) (v := some fo) (Nat.le_refl _)).setN (Nat.le_refl _)
  have hz2 : dZ D2 = dZ D + 1 := by rw [← hD2]; rfl
  have hK : ∀ b, dK D2 b = dK (dmk D 6 6 5) b := fun b => by rw [← hD2]; rfl
  have hk2 : ∀ J, pKd (mm J D2) a = 6 := fun J => (mmK p1).trans ((hK a).trans ((up1_ne (by omega)).trans p3))
  have hn2 : ∀ J, pKd (mm J D2) (dZ D) = 6 := fun J => (mmK hz).trans ((hK _).trans up1_eq)
  refine tsP_i (hk2 _) (tsP_i (hn2 _) (tsP_i (hk2 _) (tsP_i (hn2 _) (tsP_i (hk2 _) (tsP_i (hn2 _) (aR_i rfl ?_))))))
  have hu : ∀ j, upr I (dZ D) 0 a j = I a j := fun j => upr_ne (by omega)
  have hne : a ≠ dZ D := by omega
  have hold : ∀ (J : IM) (u v w : Int32) (x0 : Int32) b j, b < dZ D → up2 (up2 (up2 (up2 (upr I (dZ D) 0) (dZ D) 0 x0) (dZ D) 3 u) (dZ D) 4 v) (dZ D) 5 w b j = I b j := fun J u v w x0 b j hb => by
    rw [up2_ne (by omega), up2_ne (by omega), up2_ne (by omega), up2_ne (by omega), upr_ne (by omega)]
  refine k _ D2 hdx hz2 (fun b j hb => hold I _ _ _ _ b j hb) ?_
  have him : ∀ u v w x0, IMF I (up2 (up2 (up2 (up2 (upr I (dZ D) 0) (dZ D) 0 x0) (dZ D) 3 u) (dZ D) 4 v) (dZ D) 5 w) D := fun u v w x0 q j _ g _ => hold I u v w x0 q j g
  refine ⟨⟨hz, by omega, (hK _).trans up1_eq, ?_⟩, ⟨fo, ?_, q3.mono hdx XLn (him _ _ _ _)⟩, q4, ⟨co, ?_, q6.mono hdx XLn (him _ _ _ _)⟩, q7, ⟨?_, ?_, ?_, ?_⟩, q12⟩
  · rw [← hD2]
    exact up1_eq
  · rw [← hD2]
    exact (up2_nj (by omega)).trans up2_eq
  · rw [← hD2]
    exact up2_eq
  · rw [up2_nj (by omega), up2_nj (by omega), up2_nj (by omega), up2_eq, hu]; exact q8
  · rw [up2_nj (by omega), up2_nj (by omega), up2_eq, up2_ne hne, hu]; exact q9
  · rw [up2_nj (by omega), up2_eq, up2_ne hne, up2_ne hne, hu]; exact q10
  · rw [up2_eq, up2_ne hne, up2_ne hne, up2_ne hne, hu]; exact q11

/-! copies A -/
theorem c_fcopyA {d : Nat} {K : IM → DY → Prop} : ∀ (g i : Nat) (I : IM) (D : DY), i + g = 27 → 159 ≤ dZ D → (∀ j b, j < 27 → (dR D 91 j = some b ∨ dR D 92 j = some b) → 159 ≤ b ∧ dK D b = 4) →
    (∀ D2, DX (fun a => a = 65 ∨ a = 66) D D2 0 0 → (∀ j, i ≤ j → j < 27 → dR D2 65 j = dR D 91 j ∧ dR D2 66 j = dR D 92 j) → (∀ j, j < i → dR D2 65 j = dR D 65 j ∧ dR D2 66 j = dR D 66 j) → K (up2 I 63 4 (I 89 4)) D2) →
    Wp GG (d + 1) 156 20 [vR (some 63), vR (some 89), vI (z32 (i : Int))] [] (mm I D) (aV K) := by
  intro g
  induction g with
  | zero =>
    intro i I D hi hz hk k
    exact s_Formats_copyFromA_20 _ ((brP_t (by show z32 27 ≤ _; rw [z32_le] <;> omega)).mpr (aV_i rfl (k D DX.rf (fun j h1 h2 => by omega) (fun j _ => ⟨rfl, rfl⟩))))
  | succ g ih =>
    intro i I D hi hz hk k
    have b27 : inB (z32 (i : Int)) 27 := inB_n (by omega) (by omega)
    refine s_Formats_copyFromA_20 _ ((brP_f (by show ¬ z32 27 ≤ _; rw [z32_le] <;> omega)).mpr (tsP_i b27 (tsP_i b27 ?_)))
    rw [ix_n (by omega), z32_s]
    refine astP_i (fun b e => ?_) (tsP_i b27 (tsP_i b27 (astP_i (fun b e => ?_) ?_)))
    · obtain ⟨g1, g2⟩ := hk i b (by omega) (Or.inl e)
      exact (mmK (I := I) (D := D) g1).trans g2
    · obtain ⟨g1, g2⟩ := hk i b (by omega) (Or.inr e)
      exact (mmK (I := I) (D := D) g1).trans g2
    rw [setR_m (show isFn 65 i = false from rfl), setR_m (show isFn 66 i = false from rfl)]
    generalize hD : dset (dset D 65 i (dR D 91 i)) 66 i (dR D 92 i) = D2
    have hdx : DX (fun a => a = 65 ∨ a = 66) D D2 0 0 := by
      rw [← hD]
      exact (DX.set (X := fun a => a = 65 ∨ a = 66) (D := D) (a := 65) (Or.inl rfl)).tr (DX.set (Or.inr rfl))
    have eS : ∀ j, dR D2 91 j = dR D 91 j ∧ dR D2 92 j = dR D 92 j := fun j => by
      rw [← hD]
      constructor
      · show up2 (up2 (dR D) 65 i (dR D 91 i)) 66 i (dR D 92 i) 91 j = _
        rw [up2_ne (by omega), up2_ne (by omega)]
      · show up2 (up2 (dR D) 65 i (dR D 91 i)) 66 i (dR D 92 i) 92 j = _
        rw [up2_ne (by omega), up2_ne (by omega)]
    have eD : ∀ j, dR D2 65 j = (if j = i then dR D 91 i else dR D 65 j) ∧ dR D2 66 j = (if j = i then dR D 92 i else dR D 66 j) := fun j => by
      rw [← hD]
      constructor
      · show up2 (up2 (dR D) 65 i (dR D 91 i)) 66 i (dR D 92 i) 65 j = _
        rw [up2_ne (by omega)]
        by_cases e : j = i
        · rw [e, up2_eq, if_pos rfl]
        · rw [up2_nj e, if_neg e]
      · show up2 (up2 (dR D) 65 i (dR D 91 i)) 66 i (dR D 92 i) 66 j = _
        by_cases e : j = i
        · rw [e, up2_eq, if_pos rfl]
        · rw [up2_nj e, if_neg e, up2_ne (by omega)]
    refine ih (i + 1) I D2 (by omega) (Nat.le_trans hz hdx.1) (fun j b hj hb => ?_) (fun D3 x3 h3 l3 => k D3 (hdx.tr x3) (fun j h1 h2 => ?_) (fun j h1 => ?_))
    · rw [(eS j).1, (eS j).2] at hb
      have := hk j b hj hb
      rw [← hD]
      exact this
    · by_cases e : j = i
      · obtain ⟨q1, q2⟩ := l3 j (by omega)
        rw [q1, q2, (eD j).1, (eD j).2, if_pos e, if_pos e, e]
        exact ⟨rfl, rfl⟩
      · obtain ⟨q1, q2⟩ := h3 j (by omega) h2
        rw [q1, q2, (eS j).1, (eS j).2]
        exact ⟨rfl, rfl⟩
    · obtain ⟨q1, q2⟩ := l3 j (by omega)
      rw [q1, q2, (eD j).1, (eD j).2, if_neg (by omega), if_neg (by omega)]
      exact ⟨rfl, rfl⟩
theorem slotsA {d : Nat} {Q : Option PV → PM → Prop} {κ : SS} {D0 : DY} {I0 : IM} (hz0 : 159 ≤ dZ D0) (hP : RP 26 κ I0 D0) (hQ : RQ 26 κ I0 D0) (hI : IMF I0 I0 D0) : ∀ (g i cc ss : Nat) (I : IM) (D : DY), i + g = 4 → INV 0 κ D0 I0 cc ss (fun _ p => p < i) I D →
    (∀ I2 D2, INV 0 κ D0 I0 (cc + 5 * g) (ss + 38 * g) (fun _ p => p < 4) I2 D2 → Q none (mm (up2 (up2 (cpI (cpI (cpI I2 102 76 0 0 4) 103 77 0 0 4) 104 78 0 0 7) 54 13 ((cpI (cpI (cpI I2 102 76 0 0 4) 103 77 0 0 4) 104 78 0 0 7) 80 13)) 54 14 ((cpI (cpI (cpI I2 102 76 0 0 4) 103 77 0 0 4) 104 78 0 0 7) 80 14)) D2)) →
    Wp GG (d + 4) 154 64 [vR (some 54), vR (some 80), vI (z32 (i : Int))] [] (mm I D) Q := by
  intro g
  induction g with
  | zero =>
    intro i cc ss I D hi hN k
    obtain rfl : i = 4 := by omega
    exact s_Store_copyFromA_64 _ ((brP_t (by show z32 4 ≤ _; rw [z32_le] <;> omega)).mpr (k I D hN))
  | succ g ih =>
    intro i cc ss I D hi hN k
    have b4 : inB (z32 (i : Int)) 4 := inB_n (by omega) (by omega)
    refine s_Store_copyFromA_64 _ ((brP_f (by show ¬ z32 4 ≤ _; rw [z32_le] <;> omega)).mpr (tsP_i b4 ?_))
    rw [ix_n (by omega), z32_s]
    -- the source's slots, in any state that comes
    have srcP : ∀ {cc ss : Nat} {dn : Nat → Nat → Prop} {J : IM} {E : DY} (w : Nat), w < 2 → INV 0 κ D0 I0 cc ss dn J E → PO J E (73 + w + 26) i (zP κ w i) := fun w hw hJ => by
      have zz := hJ.1.1
      exact (hP w i hw (by omega)).mono hJ.1 (fun a e => by unfold Xd at e; omega) (by omega) (fun a ha j => by
        have := (hP w i hw (by omega)).old ha
        exact ⟨hJ.2.1 _ _ (by omega), hJ.2.1 _ _ (by omega)⟩) (fun q j h1 h2 _ => hJ.2.1 q j h2)
    have srcQ : ∀ {cc ss : Nat} {dn : Nat → Nat → Prop} {J : IM} {E : DY}, INV 0 κ D0 I0 cc ss dn J E → QO J E (75 + 26) i (zQ κ i) := fun hJ => by
      have zz := hJ.1.1
      exact (hQ i (by omega)).mono hJ.1 (fun a e => by unfold Xd at e; omega) (by omega) (fun a ha j => hJ.2.1 _ _ ((hQ i (by omega)).old ha).1) (fun q j h1 h2 _ => hJ.2.1 q j h2)
    have fin : ∀ (cc2 ss2 : Nat) (J : IM) (E : DY), cc2 ≤ cc + 5 → ss2 ≤ ss + 38 → INV 0 κ D0 I0 cc2 ss2 (fun w' p' => ((p' < i ∨ (w' = 0 ∧ p' = i)) ∨ (w' = 1 ∧ p' = i)) ∨ (w' = 2 ∧ p' = i)) J E → Wp GG (d + 4) 154 64 [vR (some 54), vR (some 80), vI (z32 ((i + 1 : Nat) : Int))] [] (mm J E) Q := fun cc2 ss2 J E h1 h2 hJ => by
      refine ih (i + 1) (cc + 5) (ss + 38) J E (by omega) ?_ (fun I2 D2 h3 => k I2 D2 (by rw [show cc + 5 * (g + 1) = cc + 5 + 5 * g by omega, show ss + 38 * (g + 1) = ss + 38 + 38 * g by omega]; exact h3))
      obtain ⟨j1, j2, j3, j4, j5, j6⟩ := hJ
      have hdn : ∀ w p, w < 3 → p < i + 1 → (((p < i ∨ (w = 0 ∧ p = i)) ∨ (w = 1 ∧ p = i)) ∨ (w = 2 ∧ p = i)) := fun w p h1 h2 => by omega
      exact ⟨j1.le h1 h2, j2, fun w p g1 g2 => j3 w p g1 (hdn w p (by omega) g2), fun p g2 => j4 p (hdn 2 p (by omega) g2), fun w p a g1 g2 g3 => j5 w p a g1 (hdn w p g1 g2) g3, fun w p w' p' a g1 g2 g3 g4 g5 g6 => j6 w p w' p' a g1 g2 (hdn w p g1 g3) (hdn w' p' g2 g4) g5 g6⟩
    have st3 : ∀ (cc2 ss2 : Nat) (J : IM) (E E' : DY), cc2 ≤ cc + 4 → ss2 ≤ ss + 32 → dR E' 101 i = dR E 101 i → INV 0 κ D0 I0 cc2 ss2 (fun w' p' => (p' < i ∨ (w' = 0 ∧ p' = i)) ∨ (w' = 1 ∧ p' = i)) J E →
        (brP ((dR E' 101 i) = none)
 (tsP (inB (z32 (i : Int)) 4) (Wp GG (d + 4) 154 64 [vR (some 54), vR (some 80), vI (z32 ((i + 1 : Nat) : Int))] [] (setR (mm J E) 75 i none) Q))
 (tsP (inB (z32 (i : Int)) 4) (onR False (dR E' 101 i) (fun a1 => tsP (pKd (mm J E) a1 = 6) (AR (d + 3) 159 [vR (some a1)] (mm J E) (fun x1 I1 D1 => tsP (inB (z32 (i : Int)) 4) (astP (mm I1 D1) 75 x1 (Wp GG (d + 4) 154 64 [vR (some 54), vR (some 80), vI (z32 ((i + 1 : Nat) : Int))] [] (setR (mm I1 D1) 75 i x1) Q)))))))) := by
      intro cc2 ss2 J E E' hc hs he hJ
      rw [he]
      have h0 := srcQ hJ
      have zz := hJ.1.1
      have hnd : ¬ ((i < i ∨ (2 = 0 ∧ i = i)) ∨ (2 = 1 ∧ i = i)) := by omega
      cases hz : zQ κ i with
      | none =>
        rw [hz] at h0
        refine (brP_t (show dR E 101 i = none from h0)).mpr (tsP_i b4 ?_)
        rw [setR_m (show isFn 75 i = false from rfl)]
        exact fin cc2 ss2 J _ (by omega) (by omega) (hJ.set (w := 2) (p := i) (v := none) (by omega) (by omega) hnd (fun c => by omega) (fun _ => by rw [hz]) (fun a e => by cases e))
      | some x =>
        rw [hz] at h0
        obtain ⟨a, e1, e2⟩ := h0
        have e1 : dR E 101 i = some a := e1
        rw [e1]
        refine (brP_f (by simp)).mpr (tsP_i b4 (onR_i rfl (tsP_i (e2.k _) ?_)))
        refine c_qcopy (d := d + 1) e2 (by omega) (fun I2 D2 x2 z2 f2 n2 => tsP_i b4 (astP_i (fun b e => ?_) ?_))
        · cases e
          exact n2.k _
        rw [setR_m (show isFn 75 i = false from rfl)]
        have hJ2 := hJ.mk (by omega) hz0 x2 f2
        refine fin _ _ I2 _ (by omega) (by omega) (hJ2.set (w := 2) (p := i) (v := some (dZ E)) (by omega) (by omega) hnd (fun c => by omega) (fun _ => by rw [hz]; exact ⟨_, rfl, n2⟩) (fun a e => ?_))
        cases e
        refine ⟨zz, by omega, fun w' p' g1 g2 c => ?_⟩
        have := hJ.2.2.2.2.1 w' p' (dZ E) g1 g2 (by rw [← c]; exact ((x2.2.2.2 _ (by omega)).2.2.2 (fun e => by have e : 73 + w' + 0 = 46 := e; omega) p').symm)
        omega
    have st2 : ∀ (cc2 ss2 : Nat) (J : IM) (E E' : DY), cc2 ≤ cc + 2 → ss2 ≤ ss + 16 → dR E' 100 i = dR E 100 i → dR E' 101 i = dR E 101 i → INV 0 κ D0 I0 cc2 ss2 (fun w' p' => p' < i ∨ (w' = 0 ∧ p' = i)) J E →
        (brP ((dR E' 100 i) = none)
 (tsP (inB (z32 (i : Int)) 4) (tsP (inB (z32 (i : Int)) 4) (brP ((dR E' 101 i) = none)
 (tsP (inB (z32 (i : Int)) 4) (Wp GG (d + 4) 154 64 [vR (some 54), vR (some 80), vI (z32 ((i + 1 : Nat) : Int))] [] (setR (setR (mm J E) 74 i none) 75 i none) Q))
 (tsP (inB (z32 (i : Int)) 4) (onR False (dR E' 101 i) (fun a1 => tsP (pKd (setR (mm J E) 74 i none) a1 = 6) (AR (d + 3) 159 [vR (some a1)] (setR (mm J E) 74 i none) (fun x1 I1 D1 => tsP (inB (z32 (i : Int)) 4) (astP (mm I1 D1) 75 x1 (Wp GG (d + 4) 154 64 [vR (some 54), vR (some 80), vI (z32 ((i + 1 : Nat) : Int))] [] (setR (mm I1 D1) 75 i x1) Q))))))))))
 (tsP (inB (z32 (i : Int)) 4) (onR False (dR E' 100 i) (fun a2 => tsP (pKd (mm J E) a2 = 7) (AR (d + 3) 158 [vR (some a2)] (mm J E) (fun x2 I2 D2 => tsP (inB (z32 (i : Int)) 4) (astP (mm I2 D2) 74 x2 (tsP (inB (z32 (i : Int)) 4) (brP ((dR D2 101 i) = none)
 (tsP (inB (z32 (i : Int)) 4) (Wp GG (d + 4) 154 64 [vR (some 54), vR (some 80), vI (z32 ((i + 1 : Nat) : Int))] [] (setR (setR (mm I2 D2) 74 i x2) 75 i none) Q))
 (tsP (inB (z32 (i : Int)) 4) (onR False (dR D2 101 i) (fun a3 => tsP (pKd (setR (mm I2 D2) 74 i x2) a3 = 6) (AR (d + 3) 159 [vR (some a3)] (setR (mm I2 D2) 74 i x2) (fun x3 I3 D3 => tsP (inB (z32 (i : Int)) 4) (astP (mm I3 D3) 75 x3 (Wp GG (d + 4) 154 64 [vR (some 54), vR (some 80), vI (z32 ((i + 1 : Nat) : Int))] [] (setR (mm I3 D3) 75 i x3) Q)))))))))))))))) := by
      intro cc2 ss2 J E E' hc hs he he2 hJ
      rw [he]
      have h0 := srcP 1 (by omega) hJ
      have zz := hJ.1.1
      have hnd : ¬ (i < i ∨ (1 = 0 ∧ i = i)) := by omega
      cases hz : zP κ 1 i with
      | none =>
        rw [hz] at h0
        refine (brP_t (show dR E 100 i = none from h0)).mpr (tsP_i b4 (tsP_i b4 ?_))
        rw [setR_m (show isFn 74 i = false from rfl)]
        exact st3 cc2 ss2 J (dset E 74 i none) E' (by omega) (by omega) (by rw [he2]; exact (dR_ne (by omega)).symm) (hJ.set (w := 1) (p := i) (v := none) (by omega) (by omega) hnd (fun _ => by rw [hz]) (fun c => by omega) (fun a e => by cases e))
      | some x =>
        rw [hz] at h0
        obtain ⟨a, e1, e2⟩ := h0
        have e1 : dR E 100 i = some a := e1
        rw [e1]
        refine (brP_f (by simp)).mpr (tsP_i b4 (onR_i rfl (tsP_i (e2.k _) ?_)))
        refine c_pcopy (d := d) e2 (fun I2 D2 x2 z2 f2 n2 => tsP_i b4 (astP_i (fun b e => ?_) (tsP_i b4 ?_)))
        · cases e
          exact n2.k _
        rw [setR_m (show isFn 74 i = false from rfl)]
        have hJ2 := hJ.mk (by omega) hz0 x2 f2
        refine st3 (cc2 + 2) (ss2 + 16) I2 (dset D2 74 i (some (dZ E))) D2 (by omega) (by omega) (dR_ne (by omega)).symm (hJ2.set (w := 1) (p := i) (v := some (dZ E)) (by omega) (by omega) hnd (fun _ => by rw [hz]; exact ⟨_, rfl, n2⟩) (fun c => by omega) (fun a e => ?_))
        cases e
        refine ⟨zz, by omega, fun w' p' g1 g2 c => ?_⟩
        have := hJ.2.2.2.2.1 w' p' (dZ E) g1 g2 (by rw [← c]; exact ((x2.2.2.2 _ (by omega)).2.2.2 (fun e => by have e : 73 + w' + 0 = 46 := e; omega) p').symm)
        omega
    have h0 := srcP 0 (by omega) hN
    have zz := hN.1.1
    have hnd : ¬ (i < i) := by omega
    cases hz : zP κ 0 i with
    | none =>
      rw [hz] at h0
      refine (brP_t (show dR D 99 i = none from h0)).mpr (tsP_i b4 (tsP_i b4 ?_))
      rw [setR_m (show isFn 73 i = false from rfl)]
      exact st2 cc ss I (dset D 73 i none) D (by omega) (by omega) (dR_ne (by omega)).symm (dR_ne (by omega)).symm (hN.set (w := 0) (p := i) (v := none) (by omega) (by omega) hnd (fun _ => by rw [hz]) (fun c => by omega) (fun a e => by cases e))
    | some x =>
      rw [hz] at h0
      obtain ⟨a, e1, e2⟩ := h0
      have e1 : dR D 99 i = some a := e1
      rw [e1]
      refine (brP_f (by simp)).mpr (tsP_i b4 (onR_i rfl (tsP_i (e2.k _) ?_)))
      refine c_pcopy (d := d) e2 (fun I2 D2 x2 z2 f2 n2 => tsP_i b4 (astP_i (fun b e => ?_) (tsP_i b4 ?_)))
      · cases e
        exact n2.k _
      rw [setR_m (show isFn 73 i = false from rfl)]
      have hJ2 := hN.mk (by omega) hz0 x2 f2
      refine st2 (cc + 2) (ss + 16) I2 (dset D2 73 i (some (dZ D))) D2 (by omega) (by omega) (dR_ne (by omega)).symm (dR_ne (by omega)).symm (hJ2.set (w := 0) (p := i) (v := some (dZ D)) (by omega) (by omega) hnd (fun _ => by rw [hz]; exact ⟨_, rfl, n2⟩) (fun c => by omega) (fun a e => ?_))
      cases e
      refine ⟨zz, by omega, fun w' p' g1 g2 c => ?_⟩
      have := hN.2.2.2.2.1 w' p' (dZ D) g1 g2 (by rw [← c]; exact ((x2.2.2.2 _ (by omega)).2.2.2 (fun e => by have e : 73 + w' + 0 = 46 := e; omega) p').symm)
      omega
/-- rows of the store that is written -/
def wRA (q j : Nat) : Prop := (q = 54 ∧ 13 ≤ j) ∨ (q = 55 ∧ j = 4) ∨ q = 56 ∨ q = 57 ∨ q = 60 ∨ (q = 63 ∧ j = 4) ∨ q = 64 ∨ q = 69 ∨ q = 70 ∨ q = 71 ∨ q = 72 ∨ q = 76 ∨ q = 77 ∨ q = 78
theorem c_copyA {d : Nat} {I : IM} {D : DY} {K : IM → DY → Prop} {κ : SS} (hz : 159 ≤ dZ D) (hB : RB 26 κ I D) (hP : RP 26 κ I D) (hQ : RQ 26 κ I D)
    (k : ∀ I2 D2, DX (Xe 0) D D2 20 152 → (∀ q j, q < dZ D → ¬ wRA q j → I2 q j = I q j) → RB 0 κ I2 D2 → RP 0 κ I2 D2 → RQ 0 κ I2 D2 → (∀ w p a, w < 3 → p < 4 → dR D2 (73 + w + 0) p = some a → dZ D ≤ a) → (∀ w p w' p' a, w < 3 → w' < 3 → p < 4 → p' < 4 → dR D2 (73 + w + 0) p = some a → dR D2 (73 + w' + 0) p' = some a → w = w' ∧ p = p') → K I2 D2) :
    AV (d + 5) 154 [vR (some 54), vR (some 80)] (mm I D) K := by
  refine s_Store_copyFromA (s_Log_copyFromA (d := d + 3) (qV_i ?_))
  rw [e_bcopy (d := d + 3) BB59 BB85]
  refine s_Formats_copyFromA (d := d + 3) ?_
  refine c_fcopyA (d := d + 3) 27 0 _ D rfl hz (fun j b hj hb => ?_) (fun D1 x1 r1 _ => ?_)
  · obtain ⟨g1, g2, g3⟩ := hB.2.2.1.2.2.2.2 j b hj hb
    exact ⟨g1, g3⟩
  refine s_Snapshots_copyFromA (d := d + 3) (qV_i ?_)
  generalize hJ : cpI (cpI (cpI (cpI (up2 (cpI (cpI (up2 (cpI (cpI I 82 56 0 0 1446) 83 57 0 0 8) 55 4 (cpI (cpI I 82 56 0 0 1446) 83 57 0 0 8 81 4)) 86 60 0 0 32) 90 64 0 0 9) 63 4 _) 95 69 0 0 32) 96 70 0 0 32) 97 71 0 0 8) 98 72 0 0 1000 = J
  have fr : ∀ q j, ¬ wRA q j → J q j = I q j := fun q j hq => by
    unfold wRA at hq
    rw [← hJ]
    by_cases e1 : q = 63
    · subst e1
      rw [cpI_ne (by omega), cpI_ne (by omega), cpI_ne (by omega), cpI_ne (by omega), up2_nj (by omega), cpI_ne (by omega), cpI_ne (by omega), up2_ne (by omega), cpI_ne (by omega), cpI_ne (by omega)]
    · by_cases e2 : q = 55
      · subst e2
        rw [cpI_ne (by omega), cpI_ne (by omega), cpI_ne (by omega), cpI_ne (by omega), up2_ne (by omega), cpI_ne (by omega), cpI_ne (by omega), up2_nj (by omega), cpI_ne (by omega), cpI_ne (by omega)]
      · rw [cpI_ne (by omega), cpI_ne (by omega), cpI_ne (by omega), cpI_ne (by omega), up2_ne (by omega), cpI_ne (by omega), cpI_ne (by omega), up2_ne (by omega), cpI_ne (by omega), cpI_ne (by omega)]
  have e55 : J 55 4 = I 81 4 := by rw [← hJ]; simp (disch := omega) only [cpI_ne, up2_ne, up2_eq]
  have e56 : ∀ k, k < 1446 → J 56 k = I 82 k := fun k hk => by rw [← hJ]; simp (disch := omega) only [cpI_ne, up2_ne, cpI_at]
  have e57 : ∀ k, k < 8 → J 57 k = I 83 k := fun k hk => by rw [← hJ]; simp (disch := omega) only [cpI_ne, up2_ne, cpI_at]
  have e60 : ∀ k, k < 32 → J 60 k = I 86 k := fun k hk => by rw [← hJ]; simp (disch := omega) only [cpI_ne, up2_ne, cpI_at]
  have e63 : J 63 4 = I 89 4 := by rw [← hJ]; simp (disch := omega) only [cpI_ne, up2_ne, up2_eq]
  have e64 : ∀ k, k < 9 → J 64 k = I 90 k := fun k hk => by rw [← hJ]; simp (disch := omega) only [cpI_ne, up2_ne, cpI_at]
  have e69 : ∀ k, k < 32 → J 69 k = I 95 k := fun k hk => by rw [← hJ]; simp (disch := omega) only [cpI_ne, up2_ne, cpI_at]
  have e70 : ∀ k, k < 32 → J 70 k = I 96 k := fun k hk => by rw [← hJ]; simp (disch := omega) only [cpI_ne, up2_ne, cpI_at]
  have e71 : ∀ k, k < 8 → J 71 k = I 97 k := fun k hk => by rw [← hJ]; simp (disch := omega) only [cpI_ne, up2_ne, cpI_at]
  have e72 : ∀ k, k < 1000 → J 72 k = I 98 k := fun k hk => by rw [← hJ]; simp (disch := omega) only [cpI_ne, up2_ne, cpI_at]
  clear hJ
  have hX1 : ∀ a, 159 ≤ a → ¬ (a = 65 ∨ a = 66) := fun a h => by omega
  have iJ : IMF I J D := fun q j h1 h2 h3 => fr q j (by unfold wRA; omega)
  have P1 : RP 26 κ J D1 := RP.mono hP (by omega) x1 (fun a e => by omega) hz (fun w p a v g1 g2 g3 g4 j => by
    obtain ⟨u1, u2, u3, u4, u5, u6, u7, u8⟩ := g4.1
    exact ⟨fr _ _ (by unfold wRA; omega), fr _ _ (by unfold wRA; omega)⟩) iJ
  have Q1 : RQ 26 κ J D1 := RQ.mono hQ (by omega) x1 (fun a e => by omega) hz (fun p a v g1 g2 g3 j => by
    obtain ⟨u1, u2, u3, u4⟩ := g3.1
    exact fr _ _ (by unfold wRA; omega)) iJ
  have z1 := x1.1
  refine slotsA (d := d + 1) (κ := κ) (by omega) P1 Q1 IMF.rf 4 0 0 0 J D1 rfl ⟨DX.rf, fun _ _ _ => rfl, fun w p _ g => absurd g (Nat.not_lt_zero p), fun p g => absurd g (Nat.not_lt_zero p), fun w p a _ g => absurd g (Nat.not_lt_zero p), fun w p w' p' a _ _ g => absurd g (Nat.not_lt_zero p)⟩ (fun I2 D2 h2 => aV_i rfl ?_)
  obtain ⟨h1, h3, h4, h5, h6, h7⟩ := h2
  generalize hL : up2 (up2 (cpI (cpI (cpI I2 102 76 0 0 4) 103 77 0 0 4) 104 78 0 0 7) 54 13 _) 54 14 _ = L
  have zd : dZ D1 ≤ dZ D2 := h1.1
  have fl : ∀ q j, ¬ ((q = 54 ∧ 13 ≤ j) ∨ q = 76 ∨ q = 77 ∨ q = 78) → L q j = I2 q j := fun q j hq => by
    rw [← hL]
    by_cases e1 : q = 54
    · subst e1
      rw [up2_nj (by omega), up2_nj (by omega), cpI_ne (by omega), cpI_ne (by omega), cpI_ne (by omega)]
    · rw [up2_ne e1, up2_ne e1, cpI_ne (by omega), cpI_ne (by omega), cpI_ne (by omega)]
  have lo : ∀ q j, q < 159 → I2 q j = J q j := fun q j hq => h3 q j (by omega)
  have eI : ∀ q j, ¬ wRA q j → q < dZ D → L q j = I q j := fun q j g1 g2 => by
    rw [fl q j (fun e => g1 (by unfold wRA; omega)), h3 q j (by omega), fr q j g1]
  have g76 : ∀ k, k < 4 → L 76 k = I 102 k := fun k hk => by
    rw [← hL]
    simp (disch := omega) only [cpI_ne, up2_ne, cpI_at]
    rw [lo _ _ (by omega), fr _ _ (by unfold wRA; omega)]
  have g77 : ∀ k, k < 4 → L 77 k = I 103 k := fun k hk => by
    rw [← hL]
    simp (disch := omega) only [cpI_ne, up2_ne, cpI_at]
    rw [lo _ _ (by omega), fr _ _ (by unfold wRA; omega)]
  have g78 : ∀ k, k < 7 → L 78 k = I 104 k := fun k hk => by
    rw [← hL]
    simp (disch := omega) only [cpI_ne, up2_ne, cpI_at]
    rw [lo _ _ (by omega), fr _ _ (by unfold wRA; omega)]
  have g13 : L 54 13 = I 80 13 := by
    rw [← hL]
    simp (disch := omega) only [cpI_ne, up2_ne, up2_nj, up2_eq]
    rw [lo _ _ (by omega), fr _ _ (by unfold wRA; omega)]
  have g14 : L 54 14 = I 80 14 := by
    rw [← hL]
    simp (disch := omega) only [cpI_ne, up2_ne, up2_nj, up2_eq]
    rw [lo _ _ (by omega), fr _ _ (by unfold wRA; omega)]
  clear hL
  have hdx : DX (Xe 0) D D2 20 152 := ((x1.mono (Y := Xe 0) (fun a e => by unfold Xe; omega)).tr (h1.mono (fun a e => Or.inl e))).le (by omega) (by omega)
  have hX : ∀ a, 159 ≤ a → ¬ Xe 0 a := fun a h e => by unfold Xe Xd at e; omega
  have iL : IMF I L D := fun q j g1 g2 g3 => eI q j (by unfold wRA; omega) g2
  have nL : IMF I2 L D2 := fun q j g1 g2 g3 => fl q j (by omega)
  refine k L D2 hdx (fun q j g1 g2 => eI q j g2 g1) ?_ (fun w p g1 g2 => ?_) (fun p g2 => ?_) (fun w p a g1 g2 g3 => ?_) (fun w p w' p' a g1 g2 g3 g4 g5 g6 => h7 w p w' p' a g1 g2 g3 g4 g5 g6)
  · refine RB.shift hB hdx hX iL (fun j hj => ?_) ?_ (fun k hk => ?_) (fun k hk => ?_) (fun k hk => ?_) ?_ (fun k hk => ?_) (fun k hk => ?_) (fun k hk => ?_) (fun k hk => ?_) (fun k hk => ?_) g76 g77 g78 g13 g14
    · obtain ⟨q1, q2⟩ := r1 j (Nat.zero_le _) hj
      have o1 := (h1.2.2.2 65 (by omega)).2.2.2 (fun e => by unfold Xd at e; omega) j
      have o2 := (h1.2.2.2 66 (by omega)).2.2.2 (fun e => by unfold Xd at e; omega) j
      exact ⟨o1.trans q1, o2.trans q2⟩
    · exact (fl _ _ (by omega)).trans ((lo _ _ (by omega)).trans e55)
    · exact (fl _ _ (by omega)).trans ((lo _ _ (by omega)).trans (e56 k hk))
    · exact (fl _ _ (by omega)).trans ((lo _ _ (by omega)).trans (e57 k hk))
    · exact (fl _ _ (by omega)).trans ((lo _ _ (by omega)).trans (e60 k hk))
    · exact (fl _ _ (by omega)).trans ((lo _ _ (by omega)).trans e63)
    · exact (fl _ _ (by omega)).trans ((lo _ _ (by omega)).trans (e64 k hk))
    · exact (fl _ _ (by omega)).trans ((lo _ _ (by omega)).trans (e69 k hk))
    · exact (fl _ _ (by omega)).trans ((lo _ _ (by omega)).trans (e70 k hk))
    · exact (fl _ _ (by omega)).trans ((lo _ _ (by omega)).trans (e71 k hk))
    · exact (fl _ _ (by omega)).trans ((lo _ _ (by omega)).trans (e72 k hk))
  · exact (h4 w p g1 g2).mono (X := fun _ => False) (c := 0) (s := 0) DX.rf (fun _ q => q.elim) (by omega) (fun a ha j => by
      have := (h4 w p g1 g2).old ha
      exact ⟨fl _ _ (by omega), fl _ _ (by omega)⟩) nL
  · exact (h5 p g2).mono (X := fun _ => False) (c := 0) (s := 0) DX.rf (fun _ q => q.elim) (by omega) (fun a ha j => by
      have := (h5 p g2).old ha
      exact fl _ _ (by omega)) nL
  · have := (h6 w p a g1 g2 g3).1
    omega

/-! copies B -/
theorem c_fcopyB {d : Nat} {K : IM → DY → Prop} : ∀ (g i : Nat) (I : IM) (D : DY), i + g = 27 → 159 ≤ dZ D → (∀ j b, j < 27 → (dR D 65 j = some b ∨ dR D 66 j = some b) → 159 ≤ b ∧ dK D b = 4) →
    (∀ D2, DX (fun a => a = 91 ∨ a = 92) D D2 0 0 → (∀ j, i ≤ j → j < 27 → dR D2 91 j = dR D 65 j ∧ dR D2 92 j = dR D 66 j) → (∀ j, j < i → dR D2 91 j = dR D 91 j ∧ dR D2 92 j = dR D 92 j) → K (up2 I 89 4 (I 63 4)) D2) →
    Wp GG (d + 1) 156 20 [vR (some 89), vR (some 63), vI (z32 (i : Int))] [] (mm I D) (aV K) := by
  intro g
  induction g with
  | zero =>
    intro i I D hi hz hk k
    exact s_Formats_copyFromB_20 _ ((brP_t (by show z32 27 ≤ _; rw [z32_le] <;> omega)).mpr (aV_i rfl (k D DX.rf (fun j h1 h2 => by omega) (fun j _ => ⟨rfl, rfl⟩))))
  | succ g ih =>
    intro i I D hi hz hk k
    have b27 : inB (z32 (i : Int)) 27 := inB_n (by omega) (by omega)
    refine s_Formats_copyFromB_20 _ ((brP_f (by show ¬ z32 27 ≤ _; rw [z32_le] <;> omega)).mpr (tsP_i b27 (tsP_i b27 ?_)))
    rw [ix_n (by omega), z32_s]
    refine astP_i (fun b e => ?_) (tsP_i b27 (tsP_i b27 (astP_i (fun b e => ?_) ?_)))
    · obtain ⟨g1, g2⟩ := hk i b (by omega) (Or.inl e)
      exact (mmK (I := I) (D := D) g1).trans g2
    · obtain ⟨g1, g2⟩ := hk i b (by omega) (Or.inr e)
      exact (mmK (I := I) (D := D) g1).trans g2
    rw [setR_m (show isFn 91 i = false from rfl), setR_m (show isFn 92 i = false from rfl)]
    generalize hD : dset (dset D 91 i (dR D 65 i)) 92 i (dR D 66 i) = D2
    have hdx : DX (fun a => a = 91 ∨ a = 92) D D2 0 0 := by
      rw [← hD]
      exact (DX.set (X := fun a => a = 91 ∨ a = 92) (D := D) (a := 91) (Or.inl rfl)).tr (DX.set (Or.inr rfl))
    have eS : ∀ j, dR D2 65 j = dR D 65 j ∧ dR D2 66 j = dR D 66 j := fun j => by
      rw [← hD]
      constructor
      · show up2 (up2 (dR D) 91 i (dR D 65 i)) 92 i (dR D 66 i) 65 j = _
        rw [up2_ne (by omega), up2_ne (by omega)]
      · show up2 (up2 (dR D) 91 i (dR D 65 i)) 92 i (dR D 66 i) 66 j = _
        rw [up2_ne (by omega), up2_ne (by omega)]
    have eD : ∀ j, dR D2 91 j = (if j = i then dR D 65 i else dR D 91 j) ∧ dR D2 92 j = (if j = i then dR D 66 i else dR D 92 j) := fun j => by
      rw [← hD]
      constructor
      · show up2 (up2 (dR D) 91 i (dR D 65 i)) 92 i (dR D 66 i) 91 j = _
        rw [up2_ne (by omega)]
        by_cases e : j = i
        · rw [e, up2_eq, if_pos rfl]
        · rw [up2_nj e, if_neg e]
      · show up2 (up2 (dR D) 91 i (dR D 65 i)) 92 i (dR D 66 i) 92 j = _
        by_cases e : j = i
        · rw [e, up2_eq, if_pos rfl]
        · rw [up2_nj e, if_neg e, up2_ne (by omega)]
    refine ih (i + 1) I D2 (by omega) (Nat.le_trans hz hdx.1) (fun j b hj hb => ?_) (fun D3 x3 h3 l3 => k D3 (hdx.tr x3) (fun j h1 h2 => ?_) (fun j h1 => ?_))
    · rw [(eS j).1, (eS j).2] at hb
      have := hk j b hj hb
      rw [← hD]
      exact this
    · by_cases e : j = i
      · obtain ⟨q1, q2⟩ := l3 j (by omega)
        rw [q1, q2, (eD j).1, (eD j).2, if_pos e, if_pos e, e]
        exact ⟨rfl, rfl⟩
      · obtain ⟨q1, q2⟩ := h3 j (by omega) h2
        rw [q1, q2, (eS j).1, (eS j).2]
        exact ⟨rfl, rfl⟩
    · obtain ⟨q1, q2⟩ := l3 j (by omega)
      rw [q1, q2, (eD j).1, (eD j).2, if_neg (by omega), if_neg (by omega)]
      exact ⟨rfl, rfl⟩
theorem slotsB {d : Nat} {Q : Option PV → PM → Prop} {κ : SS} {D0 : DY} {I0 : IM} (hz0 : 159 ≤ dZ D0) (hP : RP 0 κ I0 D0) (hQ : RQ 0 κ I0 D0) (hI : IMF I0 I0 D0) : ∀ (g i cc ss : Nat) (I : IM) (D : DY), i + g = 4 → INV 26 κ D0 I0 cc ss (fun _ p => p < i) I D →
    (∀ I2 D2, INV 26 κ D0 I0 (cc + 5 * g) (ss + 38 * g) (fun _ p => p < 4) I2 D2 → Q none (mm (up2 (up2 (cpI (cpI (cpI I2 76 102 0 0 4) 77 103 0 0 4) 78 104 0 0 7) 80 13 ((cpI (cpI (cpI I2 76 102 0 0 4) 77 103 0 0 4) 78 104 0 0 7) 54 13)) 80 14 ((cpI (cpI (cpI I2 76 102 0 0 4) 77 103 0 0 4) 78 104 0 0 7) 54 14)) D2)) →
    Wp GG (d + 4) 154 64 [vR (some 80), vR (some 54), vI (z32 (i : Int))] [] (mm I D) Q := by
  intro g
  induction g with
  | zero =>
    intro i cc ss I D hi hN k
    obtain rfl : i = 4 := by omega
    exact s_Store_copyFromB_64 _ ((brP_t (by show z32 4 ≤ _; rw [z32_le] <;> omega)).mpr (k I D hN))
  | succ g ih =>
    intro i cc ss I D hi hN k
    have b4 : inB (z32 (i : Int)) 4 := inB_n (by omega) (by omega)
    refine s_Store_copyFromB_64 _ ((brP_f (by show ¬ z32 4 ≤ _; rw [z32_le] <;> omega)).mpr (tsP_i b4 ?_))
    rw [ix_n (by omega), z32_s]
    -- the source's slots, in any state that comes
    have srcP : ∀ {cc ss : Nat} {dn : Nat → Nat → Prop} {J : IM} {E : DY} (w : Nat), w < 2 → INV 26 κ D0 I0 cc ss dn J E → PO J E (73 + w + 0) i (zP κ w i) := fun w hw hJ => by
      have zz := hJ.1.1
      exact (hP w i hw (by omega)).mono hJ.1 (fun a e => by unfold Xd at e; omega) (by omega) (fun a ha j => by
        have := (hP w i hw (by omega)).old ha
        exact ⟨hJ.2.1 _ _ (by omega), hJ.2.1 _ _ (by omega)⟩) (fun q j h1 h2 _ => hJ.2.1 q j h2)
    have srcQ : ∀ {cc ss : Nat} {dn : Nat → Nat → Prop} {J : IM} {E : DY}, INV 26 κ D0 I0 cc ss dn J E → QO J E (75 + 0) i (zQ κ i) := fun hJ => by
      have zz := hJ.1.1
      exact (hQ i (by omega)).mono hJ.1 (fun a e => by unfold Xd at e; omega) (by omega) (fun a ha j => hJ.2.1 _ _ ((hQ i (by omega)).old ha).1) (fun q j h1 h2 _ => hJ.2.1 q j h2)
    have fin : ∀ (cc2 ss2 : Nat) (J : IM) (E : DY), cc2 ≤ cc + 5 → ss2 ≤ ss + 38 → INV 26 κ D0 I0 cc2 ss2 (fun w' p' => ((p' < i ∨ (w' = 0 ∧ p' = i)) ∨ (w' = 1 ∧ p' = i)) ∨ (w' = 2 ∧ p' = i)) J E → Wp GG (d + 4) 154 64 [vR (some 80), vR (some 54), vI (z32 ((i + 1 : Nat) : Int))] [] (mm J E) Q := fun cc2 ss2 J E h1 h2 hJ => by
      refine ih (i + 1) (cc + 5) (ss + 38) J E (by omega) ?_ (fun I2 D2 h3 => k I2 D2 (by rw [show cc + 5 * (g + 1) = cc + 5 + 5 * g by omega, show ss + 38 * (g + 1) = ss + 38 + 38 * g by omega]; exact h3))
      obtain ⟨j1, j2, j3, j4, j5, j6⟩ := hJ
      have hdn : ∀ w p, w < 3 → p < i + 1 → (((p < i ∨ (w = 0 ∧ p = i)) ∨ (w = 1 ∧ p = i)) ∨ (w = 2 ∧ p = i)) := fun w p h1 h2 => by omega
      exact ⟨j1.le h1 h2, j2, fun w p g1 g2 => j3 w p g1 (hdn w p (by omega) g2), fun p g2 => j4 p (hdn 2 p (by omega) g2), fun w p a g1 g2 g3 => j5 w p a g1 (hdn w p g1 g2) g3, fun w p w' p' a g1 g2 g3 g4 g5 g6 => j6 w p w' p' a g1 g2 (hdn w p g1 g3) (hdn w' p' g2 g4) g5 g6⟩
    have st3 : ∀ (cc2 ss2 : Nat) (J : IM) (E E' : DY), cc2 ≤ cc + 4 → ss2 ≤ ss + 32 → dR E' 75 i = dR E 75 i → INV 26 κ D0 I0 cc2 ss2 (fun w' p' => (p' < i ∨ (w' = 0 ∧ p' = i)) ∨ (w' = 1 ∧ p' = i)) J E →
        (brP ((dR E' 75 i) = none)
 (tsP (inB (z32 (i : Int)) 4) (Wp GG (d + 4) 154 64 [vR (some 80), vR (some 54), vI (z32 ((i + 1 : Nat) : Int))] [] (setR (mm J E) 101 i none) Q))
 (tsP (inB (z32 (i : Int)) 4) (onR False (dR E' 75 i) (fun a1 => tsP (pKd (mm J E) a1 = 6) (AR (d + 3) 159 [vR (some a1)] (mm J E) (fun x1 I1 D1 => tsP (inB (z32 (i : Int)) 4) (astP (mm I1 D1) 101 x1 (Wp GG (d + 4) 154 64 [vR (some 80), vR (some 54), vI (z32 ((i + 1 : Nat) : Int))] [] (setR (mm I1 D1) 101 i x1) Q)))))))) := by
      intro cc2 ss2 J E E' hc hs he hJ
      rw [he]
      have h0 := srcQ hJ
      have zz := hJ.1.1
      have hnd : ¬ ((i < i ∨ (2 = 0 ∧ i = i)) ∨ (2 = 1 ∧ i = i)) := by omega
      cases hz : zQ κ i with
      | none =>
        rw [hz] at h0
        refine (brP_t (show dR E 75 i = none from h0)).mpr (tsP_i b4 ?_)
        rw [setR_m (show isFn 101 i = false from rfl)]
        exact fin cc2 ss2 J _ (by omega) (by omega) (hJ.set (w := 2) (p := i) (v := none) (by omega) (by omega) hnd (fun c => by omega) (fun _ => by rw [hz]) (fun a e => by cases e))
      | some x =>
        rw [hz] at h0
        obtain ⟨a, e1, e2⟩ := h0
        have e1 : dR E 75 i = some a := e1
        rw [e1]
        refine (brP_f (by simp)).mpr (tsP_i b4 (onR_i rfl (tsP_i (e2.k _) ?_)))
        refine c_qcopy (d := d + 1) e2 (by omega) (fun I2 D2 x2 z2 f2 n2 => tsP_i b4 (astP_i (fun b e => ?_) ?_))
        · cases e
          exact n2.k _
        rw [setR_m (show isFn 101 i = false from rfl)]
        have hJ2 := hJ.mk (by omega) hz0 x2 f2
        refine fin _ _ I2 _ (by omega) (by omega) (hJ2.set (w := 2) (p := i) (v := some (dZ E)) (by omega) (by omega) hnd (fun c => by omega) (fun _ => by rw [hz]; exact ⟨_, rfl, n2⟩) (fun a e => ?_))
        cases e
        refine ⟨zz, by omega, fun w' p' g1 g2 c => ?_⟩
        have := hJ.2.2.2.2.1 w' p' (dZ E) g1 g2 (by rw [← c]; exact ((x2.2.2.2 _ (by omega)).2.2.2 (fun e => by have e : 73 + w' + 26 = 46 := e; omega) p').symm)
        omega
    have st2 : ∀ (cc2 ss2 : Nat) (J : IM) (E E' : DY), cc2 ≤ cc + 2 → ss2 ≤ ss + 16 → dR E' 74 i = dR E 74 i → dR E' 75 i = dR E 75 i → INV 26 κ D0 I0 cc2 ss2 (fun w' p' => p' < i ∨ (w' = 0 ∧ p' = i)) J E →
        (brP ((dR E' 74 i) = none)
 (tsP (inB (z32 (i : Int)) 4) (tsP (inB (z32 (i : Int)) 4) (brP ((dR E' 75 i) = none)
 (tsP (inB (z32 (i : Int)) 4) (Wp GG (d + 4) 154 64 [vR (some 80), vR (some 54), vI (z32 ((i + 1 : Nat) : Int))] [] (setR (setR (mm J E) 100 i none) 101 i none) Q))
 (tsP (inB (z32 (i : Int)) 4) (onR False (dR E' 75 i) (fun a1 => tsP (pKd (setR (mm J E) 100 i none) a1 = 6) (AR (d + 3) 159 [vR (some a1)] (setR (mm J E) 100 i none) (fun x1 I1 D1 => tsP (inB (z32 (i : Int)) 4) (astP (mm I1 D1) 101 x1 (Wp GG (d + 4) 154 64 [vR (some 80), vR (some 54), vI (z32 ((i + 1 : Nat) : Int))] [] (setR (mm I1 D1) 101 i x1) Q))))))))))
 (tsP (inB (z32 (i : Int)) 4) (onR False (dR E' 74 i) (fun a2 => tsP (pKd (mm J E) a2 = 7) (AR (d + 3) 158 [vR (some a2)] (mm J E) (fun x2 I2 D2 => tsP (inB (z32 (i : Int)) 4) (astP (mm I2 D2) 100 x2 (tsP (inB (z32 (i : Int)) 4) (brP ((dR D2 75 i) = none)
 (tsP (inB (z32 (i : Int)) 4) (Wp GG (d + 4) 154 64 [vR (some 80), vR (some 54), vI (z32 ((i + 1 : Nat) : Int))] [] (setR (setR (mm I2 D2) 100 i x2) 101 i none) Q))
 (tsP (inB (z32 (i : Int)) 4) (onR False (dR D2 75 i) (fun a3 => tsP (pKd (setR (mm I2 D2) 100 i x2) a3 = 6) (AR (d + 3) 159 [vR (some a3)] (setR (mm I2 D2) 100 i x2) (fun x3 I3 D3 => tsP (inB (z32 (i : Int)) 4) (astP (mm I3 D3) 101 x3 (Wp GG (d + 4) 154 64 [vR (some 80), vR (some 54), vI (z32 ((i + 1 : Nat) : Int))] [] (setR (mm I3 D3) 101 i x3) Q)))))))))))))))) := by
      intro cc2 ss2 J E E' hc hs he he2 hJ
      rw [he]
      have h0 := srcP 1 (by omega) hJ
      have zz := hJ.1.1
      have hnd : ¬ (i < i ∨ (1 = 0 ∧ i = i)) := by omega
      cases hz : zP κ 1 i with
      | none =>
        rw [hz] at h0
        refine (brP_t (show dR E 74 i = none from h0)).mpr (tsP_i b4 (tsP_i b4 ?_))
        rw [setR_m (show isFn 100 i = false from rfl)]
        exact st3 cc2 ss2 J (dset E 100 i none) E' (by omega) (by omega) (by rw [he2]; exact (dR_ne (by omega)).symm) (hJ.set (w := 1) (p := i) (v := none) (by omega) (by omega) hnd (fun _ => by rw [hz]) (fun c => by omega) (fun a e => by cases e))
      | some x =>
        rw [hz] at h0
        obtain ⟨a, e1, e2⟩ := h0
        have e1 : dR E 74 i = some a := e1
        rw [e1]
        refine (brP_f (by simp)).mpr (tsP_i b4 (onR_i rfl (tsP_i (e2.k _) ?_)))
        refine c_pcopy (d := d) e2 (fun I2 D2 x2 z2 f2 n2 => tsP_i b4 (astP_i (fun b e => ?_) (tsP_i b4 ?_)))
        · cases e
          exact n2.k _
        rw [setR_m (show isFn 100 i = false from rfl)]
        have hJ2 := hJ.mk (by omega) hz0 x2 f2
        refine st3 (cc2 + 2) (ss2 + 16) I2 (dset D2 100 i (some (dZ E))) D2 (by omega) (by omega) (dR_ne (by omega)).symm (hJ2.set (w := 1) (p := i) (v := some (dZ E)) (by omega) (by omega) hnd (fun _ => by rw [hz]; exact ⟨_, rfl, n2⟩) (fun c => by omega) (fun a e => ?_))
        cases e
        refine ⟨zz, by omega, fun w' p' g1 g2 c => ?_⟩
        have := hJ.2.2.2.2.1 w' p' (dZ E) g1 g2 (by rw [← c]; exact ((x2.2.2.2 _ (by omega)).2.2.2 (fun e => by have e : 73 + w' + 26 = 46 := e; omega) p').symm)
        omega
    have h0 := srcP 0 (by omega) hN
    have zz := hN.1.1
    have hnd : ¬ (i < i) := by omega
    cases hz : zP κ 0 i with
    | none =>
      rw [hz] at h0
      refine (brP_t (show dR D 73 i = none from h0)).mpr (tsP_i b4 (tsP_i b4 ?_))
      rw [setR_m (show isFn 99 i = false from rfl)]
      exact st2 cc ss I (dset D 99 i none) D (by omega) (by omega) (dR_ne (by omega)).symm (dR_ne (by omega)).symm (hN.set (w := 0) (p := i) (v := none) (by omega) (by omega) hnd (fun _ => by rw [hz]) (fun c => by omega) (fun a e => by cases e))
    | some x =>
      rw [hz] at h0
      obtain ⟨a, e1, e2⟩ := h0
      have e1 : dR D 73 i = some a := e1
      rw [e1]
      refine (brP_f (by simp)).mpr (tsP_i b4 (onR_i rfl (tsP_i (e2.k _) ?_)))
      refine c_pcopy (d := d) e2 (fun I2 D2 x2 z2 f2 n2 => tsP_i b4 (astP_i (fun b e => ?_) (tsP_i b4 ?_)))
      · cases e
        exact n2.k _
      rw [setR_m (show isFn 99 i = false from rfl)]
      have hJ2 := hN.mk (by omega) hz0 x2 f2
      refine st2 (cc + 2) (ss + 16) I2 (dset D2 99 i (some (dZ D))) D2 (by omega) (by omega) (dR_ne (by omega)).symm (dR_ne (by omega)).symm (hJ2.set (w := 0) (p := i) (v := some (dZ D)) (by omega) (by omega) hnd (fun _ => by rw [hz]; exact ⟨_, rfl, n2⟩) (fun c => by omega) (fun a e => ?_))
      cases e
      refine ⟨zz, by omega, fun w' p' g1 g2 c => ?_⟩
      have := hN.2.2.2.2.1 w' p' (dZ D) g1 g2 (by rw [← c]; exact ((x2.2.2.2 _ (by omega)).2.2.2 (fun e => by have e : 73 + w' + 26 = 46 := e; omega) p').symm)
      omega
/-- rows of the store that is written -/
def wRB (q j : Nat) : Prop := (q = 80 ∧ 13 ≤ j) ∨ (q = 81 ∧ j = 4) ∨ q = 82 ∨ q = 83 ∨ q = 86 ∨ (q = 89 ∧ j = 4) ∨ q = 90 ∨ q = 95 ∨ q = 96 ∨ q = 97 ∨ q = 98 ∨ q = 102 ∨ q = 103 ∨ q = 104
theorem c_copyB {d : Nat} {I : IM} {D : DY} {K : IM → DY → Prop} {κ : SS} (hz : 159 ≤ dZ D) (hB : RB 0 κ I D) (hP : RP 0 κ I D) (hQ : RQ 0 κ I D)
    (k : ∀ I2 D2, DX (Xe 26) D D2 20 152 → (∀ q j, q < dZ D → ¬ wRB q j → I2 q j = I q j) → RB 26 κ I2 D2 → RP 26 κ I2 D2 → RQ 26 κ I2 D2 → (∀ w p a, w < 3 → p < 4 → dR D2 (73 + w + 26) p = some a → dZ D ≤ a) → (∀ w p w' p' a, w < 3 → w' < 3 → p < 4 → p' < 4 → dR D2 (73 + w + 26) p = some a → dR D2 (73 + w' + 26) p' = some a → w = w' ∧ p = p') → K I2 D2) :
    AV (d + 5) 154 [vR (some 80), vR (some 54)] (mm I D) K := by
  refine s_Store_copyFromB (s_Log_copyFromB (d := d + 3) (qV_i ?_))
  rw [e_bcopy (d := d + 3) BB85 BB59]
  refine s_Formats_copyFromB (d := d + 3) ?_
  refine c_fcopyB (d := d + 3) 27 0 _ D rfl hz (fun j b hj hb => ?_) (fun D1 x1 r1 _ => ?_)
  · obtain ⟨g1, g2, g3⟩ := hB.2.2.1.2.2.2.2 j b hj hb
    exact ⟨g1, g3⟩
  refine s_Snapshots_copyFromB (d := d + 3) (qV_i ?_)
  generalize hJ : cpI (cpI (cpI (cpI (up2 (cpI (cpI (up2 (cpI (cpI I 56 82 0 0 1446) 57 83 0 0 8) 81 4 (cpI (cpI I 56 82 0 0 1446) 57 83 0 0 8 55 4)) 60 86 0 0 32) 64 90 0 0 9) 89 4 _) 69 95 0 0 32) 70 96 0 0 32) 71 97 0 0 8) 72 98 0 0 1000 = J
  have fr : ∀ q j, ¬ wRB q j → J q j = I q j := fun q j hq => by
    unfold wRB at hq
    rw [← hJ]
    by_cases e1 : q = 89
    · subst e1
      rw [cpI_ne (by omega), cpI_ne (by omega), cpI_ne (by omega), cpI_ne (by omega), up2_nj (by omega), cpI_ne (by omega), cpI_ne (by omega), up2_ne (by omega), cpI_ne (by omega), cpI_ne (by omega)]
    · by_cases e2 : q = 81
      · subst e2
        rw [cpI_ne (by omega), cpI_ne (by omega), cpI_ne (by omega), cpI_ne (by omega), up2_ne (by omega), cpI_ne (by omega), cpI_ne (by omega), up2_nj (by omega), cpI_ne (by omega), cpI_ne (by omega)]
      · rw [cpI_ne (by omega), cpI_ne (by omega), cpI_ne (by omega), cpI_ne (by omega), up2_ne (by omega), cpI_ne (by omega), cpI_ne (by omega), up2_ne (by omega), cpI_ne (by omega), cpI_ne (by omega)]
  have e55 : J 81 4 = I 55 4 := by rw [← hJ]; simp (disch := omega) only [cpI_ne, up2_ne, up2_eq]
  have e56 : ∀ k, k < 1446 → J 82 k = I 56 k := fun k hk => by rw [← hJ]; simp (disch := omega) only [cpI_ne, up2_ne, cpI_at]
  have e57 : ∀ k, k < 8 → J 83 k = I 57 k := fun k hk => by rw [← hJ]; simp (disch := omega) only [cpI_ne, up2_ne, cpI_at]
  have e60 : ∀ k, k < 32 → J 86 k = I 60 k := fun k hk => by rw [← hJ]; simp (disch := omega) only [cpI_ne, up2_ne, cpI_at]
  have e63 : J 89 4 = I 63 4 := by rw [← hJ]; simp (disch := omega) only [cpI_ne, up2_ne, up2_eq]
  have e64 : ∀ k, k < 9 → J 90 k = I 64 k := fun k hk => by rw [← hJ]; simp (disch := omega) only [cpI_ne, up2_ne, cpI_at]
  have e69 : ∀ k, k < 32 → J 95 k = I 69 k := fun k hk => by rw [← hJ]; simp (disch := omega) only [cpI_ne, up2_ne, cpI_at]
  have e70 : ∀ k, k < 32 → J 96 k = I 70 k := fun k hk => by rw [← hJ]; simp (disch := omega) only [cpI_ne, up2_ne, cpI_at]
  have e71 : ∀ k, k < 8 → J 97 k = I 71 k := fun k hk => by rw [← hJ]; simp (disch := omega) only [cpI_ne, up2_ne, cpI_at]
  have e72 : ∀ k, k < 1000 → J 98 k = I 72 k := fun k hk => by rw [← hJ]; simp (disch := omega) only [cpI_ne, up2_ne, cpI_at]
  clear hJ
  have hX1 : ∀ a, 159 ≤ a → ¬ (a = 91 ∨ a = 92) := fun a h => by omega
  have iJ : IMF I J D := fun q j h1 h2 h3 => fr q j (by unfold wRB; omega)
  have P1 : RP 0 κ J D1 := RP.mono hP (by omega) x1 (fun a e => by omega) hz (fun w p a v g1 g2 g3 g4 j => by
    obtain ⟨u1, u2, u3, u4, u5, u6, u7, u8⟩ := g4.1
    exact ⟨fr _ _ (by unfold wRB; omega), fr _ _ (by unfold wRB; omega)⟩) iJ
  have Q1 : RQ 0 κ J D1 := RQ.mono hQ (by omega) x1 (fun a e => by omega) hz (fun p a v g1 g2 g3 j => by
    obtain ⟨u1, u2, u3, u4⟩ := g3.1
    exact fr _ _ (by unfold wRB; omega)) iJ
  have z1 := x1.1
  refine slotsB (d := d + 1) (κ := κ) (by omega) P1 Q1 IMF.rf 4 0 0 0 J D1 rfl ⟨DX.rf, fun _ _ _ => rfl, fun w p _ g => absurd g (Nat.not_lt_zero p), fun p g => absurd g (Nat.not_lt_zero p), fun w p a _ g => absurd g (Nat.not_lt_zero p), fun w p w' p' a _ _ g => absurd g (Nat.not_lt_zero p)⟩ (fun I2 D2 h2 => aV_i rfl ?_)
  obtain ⟨h1, h3, h4, h5, h6, h7⟩ := h2
  generalize hL : up2 (up2 (cpI (cpI (cpI I2 76 102 0 0 4) 77 103 0 0 4) 78 104 0 0 7) 80 13 _) 80 14 _ = L
  have zd : dZ D1 ≤ dZ D2 := h1.1
  have fl : ∀ q j, ¬ ((q = 80 ∧ 13 ≤ j) ∨ q = 102 ∨ q = 103 ∨ q = 104) → L q j = I2 q j := fun q j hq => by
    rw [← hL]
    by_cases e1 : q = 80
    · subst e1
      rw [up2_nj (by omega), up2_nj (by omega), cpI_ne (by omega), cpI_ne (by omega), cpI_ne (by omega)]
    · rw [up2_ne e1, up2_ne e1, cpI_ne (by omega), cpI_ne (by omega), cpI_ne (by omega)]
  have lo : ∀ q j, q < 159 → I2 q j = J q j := fun q j hq => h3 q j (by omega)
  have eI : ∀ q j, ¬ wRB q j → q < dZ D → L q j = I q j := fun q j g1 g2 => by
    rw [fl q j (fun e => g1 (by unfold wRB; omega)), h3 q j (by omega), fr q j g1]
  have g76 : ∀ k, k < 4 → L 102 k = I 76 k := fun k hk => by
    rw [← hL]
    simp (disch := omega) only [cpI_ne, up2_ne, cpI_at]
    rw [lo _ _ (by omega), fr _ _ (by unfold wRB; omega)]
  have g77 : ∀ k, k < 4 → L 103 k = I 77 k := fun k hk => by
    rw [← hL]
    simp (disch := omega) only [cpI_ne, up2_ne, cpI_at]
    rw [lo _ _ (by omega), fr _ _ (by unfold wRB; omega)]
  have g78 : ∀ k, k < 7 → L 104 k = I 78 k := fun k hk => by
    rw [← hL]
    simp (disch := omega) only [cpI_ne, up2_ne, cpI_at]
    rw [lo _ _ (by omega), fr _ _ (by unfold wRB; omega)]
  have g13 : L 80 13 = I 54 13 := by
    rw [← hL]
    simp (disch := omega) only [cpI_ne, up2_ne, up2_nj, up2_eq]
    rw [lo _ _ (by omega), fr _ _ (by unfold wRB; omega)]
  have g14 : L 80 14 = I 54 14 := by
    rw [← hL]
    simp (disch := omega) only [cpI_ne, up2_ne, up2_nj, up2_eq]
    rw [lo _ _ (by omega), fr _ _ (by unfold wRB; omega)]
  clear hL
  have hdx : DX (Xe 26) D D2 20 152 := ((x1.mono (Y := Xe 26) (fun a e => by unfold Xe; omega)).tr (h1.mono (fun a e => Or.inl e))).le (by omega) (by omega)
  have hX : ∀ a, 159 ≤ a → ¬ Xe 26 a := fun a h e => by unfold Xe Xd at e; omega
  have iL : IMF I L D := fun q j g1 g2 g3 => eI q j (by unfold wRB; omega) g2
  have nL : IMF I2 L D2 := fun q j g1 g2 g3 => fl q j (by omega)
  refine k L D2 hdx (fun q j g1 g2 => eI q j g2 g1) ?_ (fun w p g1 g2 => ?_) (fun p g2 => ?_) (fun w p a g1 g2 g3 => ?_) (fun w p w' p' a g1 g2 g3 g4 g5 g6 => h7 w p w' p' a g1 g2 g3 g4 g5 g6)
  · refine RB.shift hB hdx hX iL (fun j hj => ?_) ?_ (fun k hk => ?_) (fun k hk => ?_) (fun k hk => ?_) ?_ (fun k hk => ?_) (fun k hk => ?_) (fun k hk => ?_) (fun k hk => ?_) (fun k hk => ?_) g76 g77 g78 g13 g14
    · obtain ⟨q1, q2⟩ := r1 j (Nat.zero_le _) hj
      have o1 := (h1.2.2.2 91 (by omega)).2.2.2 (fun e => by unfold Xd at e; omega) j
      have o2 := (h1.2.2.2 92 (by omega)).2.2.2 (fun e => by unfold Xd at e; omega) j
      exact ⟨o1.trans q1, o2.trans q2⟩
    · exact (fl _ _ (by omega)).trans ((lo _ _ (by omega)).trans e55)
    · exact (fl _ _ (by omega)).trans ((lo _ _ (by omega)).trans (e56 k hk))
    · exact (fl _ _ (by omega)).trans ((lo _ _ (by omega)).trans (e57 k hk))
    · exact (fl _ _ (by omega)).trans ((lo _ _ (by omega)).trans (e60 k hk))
    · exact (fl _ _ (by omega)).trans ((lo _ _ (by omega)).trans e63)
    · exact (fl _ _ (by omega)).trans ((lo _ _ (by omega)).trans (e64 k hk))
    · exact (fl _ _ (by omega)).trans ((lo _ _ (by omega)).trans (e69 k hk))
    · exact (fl _ _ (by omega)).trans ((lo _ _ (by omega)).trans (e70 k hk))
    · exact (fl _ _ (by omega)).trans ((lo _ _ (by omega)).trans (e71 k hk))
    · exact (fl _ _ (by omega)).trans ((lo _ _ (by omega)).trans (e72 k hk))
  · exact (h4 w p g1 g2).mono (X := fun _ => False) (c := 0) (s := 0) DX.rf (fun _ q => q.elim) (by omega) (fun a ha j => by
      have := (h4 w p g1 g2).old ha
      exact ⟨fl _ _ (by omega), fl _ _ (by omega)⟩) nL
  · exact (h5 p g2).mono (X := fun _ => False) (c := 0) (s := 0) DX.rf (fun _ q => q.elim) (by omega) (fun a ha j => by
      have := (h5 p g2).old ha
      exact fl _ _ (by omega)) nL
  · have := (h6 w p a g1 g2 g3).1
    omega
