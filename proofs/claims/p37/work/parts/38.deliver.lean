/-! Projections are delivered to, policies run. -/
def hdlE (C : CF) (x : PJ) (e : EV) (p : Nat) : PJ := cpJ (hdl x (eK e) (eS e) (rdE C e).1 (rdE C e).2) p
theorem hdl_F {x : PJ} {kd s : Nat} {a b : Int32} : jF (hdl x kd s a b) = jF x ∧ jM (hdl x kd s a b) = jM x ∧ jY (hdl x kd s a b) = jY x ∧ jC (hdl x kd s a b) = jC x ∧ jP (hdl x kd s a b) = jP x := by
  unfold hdl
  repeat' split
  all_goals exact ⟨rfl, rfl, rfl, rfl, rfl⟩
/-- what handling by the store may change -/
def SF (D : DY) (a : Nat) (I I2 : IM) : Prop := ∀ q k, ¬ (q = 67 ∨ q = 78 ∨ (q = a ∧ 5 ≤ k) ∨ q = a + 1 ∨ (159 ≤ q ∧ dW D q = 2)) → I2 q k = I q k
theorem SF.rf {D : DY} {a : Nat} {I : IM} : SF D a I I := fun _ _ _ => rfl
theorem SF.tr {D : DY} {a : Nat} {I I2 I3 : IM} (h : SF D a I I2) (h2 : SF D a I2 I3) : SF D a I I3 := fun q k e => (h2 q k e).trans (h q k e)
theorem RF.s {D : DY} {a : Nat} {I I2 : IM} (h : RF D I I2) : SF D a I I2 := fun q k e => h q k (by omega)
theorem HF.s {D : DY} {a : Nat} {I I2 : IM} (h : HF D a I I2) : SF D a I I2 := fun q k e => h q k (by omega)
theorem isP.rf {I I2 : IM} {D : DY} {a : Nat} {x : PJ} (h : isP I D a x) (hf : RF D I I2) : isP I2 D a x := by
  obtain ⟨p1, p2, p3, p4, p5, p6, p7, p8⟩ := id h.1
  exact h.fr (fun k => hf a k (by omega)) (fun k => hf (a + 1) k (by omega)) (fun b k h1 h2 h3 => hf b k (by omega))
theorem isP.cp {I : IM} {D : DY} {a p : Nat} {x : PJ} (h : isP I D a x) (hp : p ≤ 240) : isP (up2 I a 6 (z32 (p : Int))) D a (cpJ x p) := by
  obtain ⟨q1, ⟨fo, q2, q3⟩, q4, ⟨q5, q6, q7, q8, q9⟩, q10, q11, q12, q13⟩ := h
  refine ⟨q1, ⟨fo, q2, q3.qf (fun b j h1 h2 h3 => up2_ne (fun e => by rw [e] at h3; omega))⟩, q4, ⟨(up2_nj (by omega)).trans q5, (up2_nj (by omega)).trans q6, (up2_nj (by omega)).trans q7, (up2_nj (by omega)).trans q8, up2_eq⟩, fun k v hk hv => (up2_ne (by omega)).trans (q10 k v hk hv), q11, q12, hp⟩
theorem c_shandle {d : Nat} {I : IM} {D : DY} {K : IM → Prop} {C : CF} {L : List EV} {i a : Nat} {e : EV} {x : PJ} (hL : LG 55 I L) (hM : FM 63 I D C) (he : L[i]? = some e) (ho : okEv C e) (h : isP I D a x)
    (k : ∀ I2, (∀ q j, ¬ (q = 67 ∨ (q = a ∧ 5 ≤ j) ∨ q = a + 1 ∨ (159 ≤ q ∧ dW D q = 2)) → I2 q j = I q j) → isP I2 D a (hdlE C x e (i + 1)) → K I2) : CV (d + 4) 120 [vR (some 54), vR (some a), vI (z32 ((i + 1 : Nat) : Int))] (mm I D) K := by
  obtain ⟨p1, p2, p3, p4, p5, p6, p7, p8⟩ := id h.1
  have hi := lt_of_get he
  have hl := hL.2.1
  refine s_Store_handle _ _ (c_read (d := d) hL hM he ho (fun I1 r1 lt1 => ?_))
  rw [e_lg (d := d + 1) (hL.qf r1.q) he (c := 2) (lit := 2) (by omega) rfl]
  refine onR_i rfl (tsP_i (h.k _) ?_)
  refine c_phandle (d := d + 1) (h.rf r1) lt1 ho.2.1 ho.1 (fun I2 f2 h2 _ => onR_i rfl (tsP_i (h2.k _) (qV_i (k _ (fun q j g2 => ?_) (h2.cp (by omega))))))
  by_cases e1 : q = a ∧ j = 6
  · exact absurd (Or.inr (Or.inl ⟨e1.1, by omega⟩)) g2
  · rw [show up2 I2 a 6 _ q j = I2 q j from if_neg e1, f2 q j (by omega), r1 q j (by omega)]
/-- so many events from a position on are delivered: the projection then, what is led, how many were handled -/
def dlv (C : CF) (L : List EV) : Nat → Nat → PJ → (Nat → Int32) → Nat → PJ × (Nat → Int32) × Nat
  | 0, _, x, D, h => (x, D, h)
  | n + 1, p, x, D, h => match L[p - 1]? with
    | none => (x, D, h)
    | some e => if jP x + 1 < p then (x, updF D 6 (D 6 + 1), h) else if p ≤ jP x then dlv C L n (p + 1) x (updF D 5 (D 5 + 1)) h else dlv C L n (p + 1) (hdlE C x e p) (updF D 4 (D 4 + 1)) (h + 1)
theorem LG.sf {D : DY} {a : Nat} {I I2 : IM} {L : List EV} (h : LG 55 I L) (ha : 159 ≤ a) (hf : SF D a I I2) : LG 55 I2 L := h.fr (hf _ _ (by omega)) (fun k => hf _ _ (by omega)) (fun k => hf _ _ (by omega))
theorem FM.sf {D : DY} {a : Nat} {I I2 : IM} {C : CF} (h : FM 63 I D C) (ha : 159 ≤ a) (h4 : dW D a = 4) (h3 : dW D (a + 1) = 3) (hf : SF D a I I2) : FM 63 I2 D C := h.fr (hf _ _ (by omega)) (fun k => hf _ _ (by omega)) (fun q k h1 h2 h5 => hf q k (fun e => by
  rcases e with e | e | e | e | e
  · omega
  · omega
  · rw [e.1] at h5; omega
  · rw [e] at h5; omega
  · omega))
theorem isP.t78 {I : IM} {D : DY} {a k : Nat} {v : Int32} {x : PJ} (h : isP I D a x) : isP (up2 I 78 k v) D a x := by
  have := h.1.1
  exact h.fr (fun k => up2_ne (by omega)) (fun k => up2_ne (by omega)) (fun b j hb _ _ => up2_ne (by omega))
def ledP (I : IM) (D : Nat → Int32) : Prop := ∀ k, k < 7 → I 78 k = D k
theorem ledP.up {I : IM} {D : Nat → Int32} {k : Nat} (h : ledP I D) (hk : k < 7) : ledP (up2 I 78 k (I 78 k + 1)) (updF D k (D k + 1)) := fun j hj => by
  by_cases e : j = k
  · subst e
    rw [up2_eq, updF_eq, h j hj]
  · rw [up2_nj e, updF_ne e, h j hj]
theorem hand_loop {d : Nat} {D : DY} {K : Int32 → IM → Prop} {C : CF} {L : List EV} {a f n : Nat} (hn : n ≤ 240) (hf : 1 ≤ f ∧ f ≤ 2147483647) (ho : ∀ e ∈ L, okEv C e) : ∀ (g i : Nat) (I0 I : IM) (x : PJ) (ld : Nat → Int32) (h : Nat) (w : PV), i + g = n → h ≤ i → LG 55 I L → FM 63 I D C → isP I D a x → ledP I ld → SF D a I0 I →
    (∀ I2, SF D a I0 I2 → isP I2 D a (dlv C L g (f + i) x ld h).1 → ledP I2 (dlv C L g (f + i) x ld h).2.1 → K (z32 ((dlv C L g (f + i) x ld h).2.2 : Int)) I2) →
    Wp GG (d + 5) 119 6 [vR (some 54), vR (some a), vI (z32 (f : Int)), vI (z32 (n : Int)), vI (z32 (h : Int)), vI (z32 (i : Int)), w] [] (mm I D) (qI (mm I0 D) K) := by
  intro g
  induction g with
  | zero =>
    intro i I0 I x ld h w hi hh hL hM hP hl hs k
    exact s_Store_handOver_6 _ _ _ _ _ _ ((brP_t (by rw [z32_le] <;> omega)).mpr (qI_i (k I hs hP hl)))
  | succ g ih =>
    intro i I0 I x ld h w hi hh hL hM hP hl hs k
    obtain ⟨p1, p2, p3, p4, p5, p6, p7, p8⟩ := id hP.1
    have hll := hL.2.1
    have ed : dlv C L (g + 1) (f + i) x ld h = (match L[f + i - 1]? with
      | none => (x, ld, h)
      | some e => if jP x + 1 < f + i then (x, updF ld 6 (ld 6 + 1), h) else if f + i ≤ jP x then dlv C L g (f + i + 1) x (updF ld 5 (ld 5 + 1)) h else dlv C L g (f + i + 1) (hdlE C x e (f + i)) (updF ld 4 (ld 4 + 1)) (h + 1)) := rfl
    rw [ed] at k
    refine s_Store_handOver_6 _ _ _ _ _ _ ((brP_f (by rw [z32_le] <;> omega)).mpr ?_)
    rw [hL.1, z32_sub]
    refine brP_i (fun q => ?_) (fun q => qI_i ?_)
    · rw [z32_le (by omega) (by omega) (by omega) (by omega)] at q
      obtain ⟨e, he⟩ : ∃ e, L[f + i - 1]? = some e := ⟨L[f + i - 1]'(by omega), List.getElem?_eq_getElem (by omega)⟩
      rw [he] at k
      dsimp only at k
      refine onR_i rfl (tsP_i (hP.k _) ?_)
      have hcp := hP.2.2.2.2.2.2.2
      have e6 : I a 6 = z32 (jP x : Int) := hP.2.2.2.1.2.2.2.2
      rw [e6, z32_add, z32_s, z32_s, z32_s, show ((f : Int) + (i : Int)) = ((f + i : Nat) : Int) by omega]
      refine brP_i (fun q2 => onR_i rfl (tsP_i (hP.k _) ?_)) (fun q2 => ?_)
      · rw [z32_le (by omega) (by omega) (by omega) (by omega)] at q2
        rw [if_neg (by omega)] at k
        rw [e6]
        refine brP_i (fun q3 => ?_) (fun q3 => ?_)
        · rw [z32_lt (by omega) (by omega) (by omega) (by omega)] at q3
          rw [if_neg (by omega)] at k
          have ei : f + i = (f + i - 1) + 1 := by omega
          rw [show z32 ((f + i : Nat) : Int) = z32 ((f + i - 1 + 1 : Nat) : Int) by rw [← ei]]
          refine c_shandle (d := d) hL hM he (ho e (List.mem_of_getElem? he)) hP (fun I2 f2 h2 => ?_)
          rw [← ei] at h2 ⊢
          have s2 : SF D a I I2 := fun q j e => f2 q j (by omega)
          have l2 : ledP I2 ld := fun j hj => (f2 78 j (by omega)).trans (hl j hj)
          rw [e_tell (k := 4) (lit := 4) (by omega) rfl]
          have s3 : SF D a I2 (up2 I2 78 4 (I2 78 4 + 1)) := fun q j e => up2_ne (by omega)
          exact ih (i + 1) I0 _ _ _ (h + 1) _ (by omega) (by omega) ((hL.sf p1 s2).sf p1 s3) ((hM.sf p1 p4 p7 s2).sf p1 p4 p7 s3) h2.t78 (l2.up (by omega)) (hs.tr (s2.tr s3)) k
        · rw [z32_lt (by omega) (by omega) (by omega) (by omega)] at q3
          rw [if_pos (by omega)] at k
          rw [e_tell (k := 5) (lit := 5) (by omega) rfl]
          have s2 : SF D a I (up2 I 78 5 (I 78 5 + 1)) := fun q j e => up2_ne (by omega)
          exact ih (i + 1) I0 _ x _ h _ (by omega) (by omega) (hL.sf p1 s2) (hM.sf p1 p4 p7 s2) hP.t78 (hl.up (by omega)) (hs.tr s2) k
      · rw [z32_le (by omega) (by omega) (by omega) (by omega)] at q2
        rw [if_pos (by omega)] at k
        rw [e_tell (k := 6) (lit := 6) (by omega) rfl]
        exact qI_i (k _ (hs.tr (fun q j e => up2_ne (by omega))) hP.t78 (hl.up (by omega)))
    · rw [z32_le (by omega) (by omega) (by omega) (by omega)] at q
      rw [List.getElem?_eq_none (by omega)] at k
      exact k I hs hP hl
theorem c_handOver {d : Nat} {I : IM} {D : DY} {K : Int32 → IM → Prop} {C : CF} {L : List EV} {a f n : Nat} {x : PJ} {ld : Nat → Int32} (hn : n ≤ 240) (hf : 1 ≤ f ∧ f ≤ 2147483647) (ho : ∀ e ∈ L, okEv C e) (hL : LG 55 I L) (hM : FM 63 I D C) (hP : isP I D a x) (hl : ledP I ld)
    (k : ∀ I2, SF D a I I2 → isP I2 D a (dlv C L n f x ld 0).1 → ledP I2 (dlv C L n f x ld 0).2.1 → K (z32 ((dlv C L n f x ld 0).2.2 : Int)) I2) : CI (d + 5) 119 [vR (some 54), vR (some a), vI (z32 (f : Int)), vI (z32 (n : Int))] (mm I D) K :=
  s_Store_handOver _ _ _ (hand_loop (d := d) hn hf ho n 0 I I x ld 0 _ (by omega) (Nat.le_refl _) hL hM hP hl SF.rf k)
/-- rows as events up to the checkpoint give them now -/
def truV (C : CF) (L : List EV) : Nat → Nat → PJ → PJ
  | 0, _, x => x
  | n + 1, p, x => match L[p - 1]? with
    | none => x
    | some e => truV C L n (p + 1) (hdlE C x e p)
theorem SF.f {D : DY} {a : Nat} {I I2 : IM} (h : SF D a I I2) (ha : 159 ≤ a) : ∀ q k, q < 159 → q ≠ 67 → q ≠ 78 → I2 q k = I q k := fun q k h1 h2 h3 => h q k (by omega)
theorem isP.sf {I I2 : IM} {D : DY} {a b : Nat} {x : PJ} (h : isP I D a x) (hb : isP I D b x ∨ True) (hne : a ≠ b ∧ a ≠ b + 1 ∧ a + 1 ≠ b ∧ a + 1 ≠ b + 1) (hbW : dW D b ≠ 1 ∧ dW D (b + 1) ≠ 1) (hf : SF D b I I2) : isP I2 D a x := by
  obtain ⟨p1, p2, p3, p4, p5, p6, p7, p8⟩ := id h.1
  refine h.fr (fun k => hf a k (by omega)) (fun k => hf (a + 1) k (by omega)) (fun q k h1 h2 h3 => hf q k (fun e => ?_))
  rcases e with e | e | e | e | e
  · omega
  · omega
  · rw [e.1] at h3; exact hbW.1 h3
  · rw [e] at h3; exact hbW.2 h3
  · omega
def SH (D : DY) (a : Nat) (I I2 : IM) : Prop := ∀ q k, ¬ (q = 67 ∨ (q = a ∧ 5 ≤ k) ∨ q = a + 1 ∨ (159 ≤ q ∧ dW D q = 2)) → I2 q k = I q k
theorem SH.rf {D : DY} {a : Nat} {I : IM} : SH D a I I := fun _ _ _ => rfl
theorem SH.tr {D : DY} {a : Nat} {I I2 I3 : IM} (h : SH D a I I2) (h2 : SH D a I2 I3) : SH D a I I3 := fun q k e => (h2 q k e).trans (h q k e)
theorem SH.s {D : DY} {a : Nat} {I I2 : IM} (h : SH D a I I2) : SF D a I I2 := fun q k e => h q k (by omega)
theorem true_loop {d : Nat} {D : DY} {K : Int32 → IM → DY → Prop} {C : CF} {L : List EV} {a b : Nat} {x : PJ} (ho : ∀ e ∈ L, okEv C e) (hne : a ≠ b ∧ a ≠ b + 1 ∧ a + 1 ≠ b ∧ a + 1 ≠ b + 1) : ∀ (g i : Nat) (I0 I : IM) (y : PJ), i + g = jP x → LG 55 I L → FM 63 I D C → isP I D a x → isP I D b y → SH D b I0 I →
    (∀ I2, SH D b I0 I2 → K (rsame (jR x) (jR (truV C L g (i + 1) y)) (List.range' 0 9)) I2 D) → Wp GG (d + 5) 128 7 [vR (some 54), vR (some a), vR (some b), vI (z32 ((i + 1 : Nat) : Int))] [] (mm I D) (aI K) := by
  intro g
  induction g with
  | zero =>
    intro i I0 I y hi hL hM hP hY hs k
    have hcp := hP.2.2.2.2.2.2.2
    have e6 : I a 6 = z32 (jP x : Int) := hP.2.2.2.1.2.2.2.2
    refine s_Store_isTrue_7 _ _ _ (onR_i rfl (tsP_i (hP.k _) ?_))
    rw [e6]
    refine (brP_t (by rw [z32_lt] <;> omega)).mpr (onR_i rfl (tsP_i (hP.k _) (c_same (d := d + 3) hP hY (rtP_i ?_ (aI_i rfl (k I hs))))))
    have : ∀ (r r2 : Nat → Option Int32) (l : List Nat), rsame r r2 l = 0 ∨ rsame r r2 l = 1 := by
      intro r r2 l
      induction l with
      | nil => exact Or.inr rfl
      | cons z l ih =>
        unfold rsame
        split
        · exact ih
        · exact Or.inl rfl
    exact this _ _ _
  | succ g ih =>
    intro i I0 I y hi hL hM hP hY hs k
    have hcp := hP.2.2.2.2.2.2.2
    have hll := hL.2.1
    have e6 : I a 6 = z32 (jP x : Int) := hP.2.2.2.1.2.2.2.2
    have et : truV C L (g + 1) (i + 1) y = (match L[i]? with
      | none => y
      | some e => truV C L g (i + 1 + 1) (hdlE C y e (i + 1))) := rfl
    rw [et] at k
    refine s_Store_isTrue_7 _ _ _ (onR_i rfl (tsP_i (hP.k _) ?_))
    rw [e6, hL.1]
    refine (brP_f (by rw [z32_lt] <;> omega)).mpr (brP_i (fun q => onR_i rfl (tsP_i (hP.k _) (c_same (d := d + 3) hP hY ?_))) (fun q => ?_))
    · rw [z32_lt (by omega) (by omega) (by omega) (by omega)] at q
      rw [List.getElem?_eq_none (by omega)] at k
      have : ∀ (r r2 : Nat → Option Int32) (l : List Nat), rsame r r2 l = 0 ∨ rsame r r2 l = 1 := by
        intro r r2 l
        induction l with
        | nil => exact Or.inr rfl
        | cons z l ih =>
          unfold rsame
          split
          · exact ih
          · exact Or.inl rfl
      exact rtP_i (this _ _ _) (aI_i rfl (k I hs))
    · rw [z32_lt (by omega) (by omega) (by omega) (by omega)] at q
      obtain ⟨e, he⟩ : ∃ e, L[i]? = some e := ⟨L[i]'(by omega), List.getElem?_eq_getElem (by omega)⟩
      rw [he] at k
      obtain ⟨w1, w2, w3, w4, w5, w6, w7, w8⟩ := id hY.1
      refine c_shandle (d := d) hL hM he (ho e (List.mem_of_getElem? he)) hY (fun I2 f2 h2 => ?_)
      have s2 : SH D b I I2 := f2
      rw [z32_s]
      exact ih (i + 1) I0 I2 _ (by omega) (hL.sf w1 s2.s) (hM.sf w1 w4 w7 s2.s) (hP.sf (Or.inr trivial) hne (by omega) s2.s) h2 (hs.tr s2) k
theorem c_isTrue {d : Nat} {I : IM} {D : DY} {K : Int32 → IM → DY → Prop} {σ : SS} {a : Nat} {x : PJ} (ho : ∀ e ∈ zL σ, okEv (zC σ) e) (h : RB 0 σ I D) (hP : isP I D a x)
    (k : ∀ I2 D2, DX XL D D2 2 16 → (∀ q j, q < dZ D → ¬ (q = 67 ∨ (159 ≤ q ∧ dW D q = 2)) → I2 q j = I q j) → K (rsame (jR x) (jR (truV (zC σ) (zL σ) (jP x) 1 (newJ x))) (List.range' 0 9)) I2 D2) : AI (d + 5) 128 [vR (some 54), vR (some a)] (mm I D) K := by
  obtain ⟨p1, p2, p3, p4, p5, p6, p7, p8⟩ := id hP.1
  refine s_Store_isTrue _ (onR_i rfl (tsP_i (hP.k _) (c_afresh (d := d + 2) hP (fun I1 D1 x1 e1 f1 n1 => ?_))))
  have r1 : RB 0 σ I1 D1 := h.mono (by omega) x1 (fun q hq => by have hq : q = 46 := hq; omega) (by omega) (fun q j hq => f1 _ _ (by unfold bP at hq; omega)) (fun q j _ hq _ => f1 q j hq)
  have hP1 : isP I1 D1 a x := hP.mono x1 XLn (fun j => f1 _ _ (by omega)) (fun j => f1 _ _ (by omega)) (fun q j _ hq _ => f1 q j hq)
  refine true_loop (d := d) ho (b := dZ D) (by omega) (jP x) 0 I1 I1 (newJ x) (by omega) r1.1 r1.2.2.1 hP1 n1 SH.rf (fun I2 s2 => k I2 D1 x1 (fun q j hq he => ?_))
  rw [s2 q j (fun e => he ?_), f1 q j hq]
  rcases e with e | e | e | e
  · exact Or.inl e
  · omega
  · omega
  · exact Or.inr ⟨e.1, (x1.2.2.2 q hq).2.2.1 ▸ e.2⟩
/-! policies -/
def cutV (x : Int32) : Int32 := if 0 < (if x < 999 then x else 999) then (if x < 999 then x else 999) else 0
def amtV (C : CF) (cm : Cm) (e : EV) : Int32 := match cm.2.2.2 with
  | none => z32 cm.2.1
  | some c => cutV (valV (env3 (rdE C e).1 (rdE C e).2 (z32 (eS e : Int))) c)
def setQ (x : QL) (p : Nat) (dn rf : Int32) : QL := (qlM x, qlC x, qlK x, p, dn, rf)
/-- a policy handles an event: the store then, the policy, whether it could -/
def hndS (σ : SS) (x : QL) (e : EV) : SS × QL × Bool :=
  if (qlM x >>> z32 (eK e : Int)) &&& 1 = 1 ∧ valV (env3 (rdE (zC σ) e).1 (rdE (zC σ) e).2 (z32 (eS e : Int))) (qlC x) ≠ 0 then
    (if (carS σ (eS e) (qlK x) (amtV (zC σ) (qlK x) e)).2 = -3 then ((carS σ (eS e) (qlK x) (amtV (zC σ) (qlK x) e)).1, x, false)
     else if 0 < (carS σ (eS e) (qlK x) (amtV (zC σ) (qlK x) e)).2 then ((carS σ (eS e) (qlK x) (amtV (zC σ) (qlK x) e)).1, setQ x (qlP x) (qlD x + 1) (qlR x), true)
     else ((carS σ (eS e) (qlK x) (amtV (zC σ) (qlK x) e)).1, setQ x (qlP x) (qlD x) (qlR x + 1), true))
  else (σ, x, true)
/-- what a policy's handling may change -/
def NF (D : DY) (a : Nat) (I I2 : IM) : Prop := ∀ q k, ¬ (q = 67 ∨ (q = 55 ∧ k = 4) ∨ q = 56 ∨ q = 57 ∨ q = 60 ∨ q = 69 ∨ q = 70 ∨ q = 71 ∨ q = 78 ∨ (q = a ∧ 3 ≤ k) ∨ (159 ≤ q ∧ dW D q = 2)) → I2 q k = I q k
theorem NF.rf {D : DY} {a : Nat} {I : IM} : NF D a I I := fun _ _ _ => rfl
theorem NF.tr {D : DY} {a : Nat} {I I2 I3 : IM} (h : NF D a I I2) (h2 : NF D a I2 I3) : NF D a I I3 := fun q k e => (h2 q k e).trans (h q k e)
theorem RF.n {D : DY} {a : Nat} {I I2 : IM} (h : RF D I I2) : NF D a I I2 := fun q k e => h q k (by omega)
theorem MF.n {D : DY} {a : Nat} {I I2 : IM} (h : MF I I2) : NF D a I I2 := fun q k e => h q k (by omega) (by omega) (by omega) (by omega) (by omega) (by omega) (by omega) (by omega)
theorem isQ.fr {I I2 : IM} {D : DY} {a : Nat} {x : QL} (h : isQ I D a x) (h1 : ∀ k, I2 a k = I a k) (h3 : IMF I I2 D) : isQ I2 D a x := h.mono (X := fun _ => False) (DX.rf (c := 0) (s := 0)) (fun _ _ q => q) h1 h3
theorem RF.im {D : DY} {I I2 : IM} (h : RF D I I2) : IMF I I2 D := h.q.im
theorem isQ.k {I : IM} {D : DY} {a : Nat} {x : QL} (h : isQ I D a x) (J : IM) : pKd (mm J D) a = 6 := (mmK h.1.1).trans h.1.2.2.1
theorem c_amountBy {d : Nat} {I : IM} {D : DY} {K : Int32 → IM → Prop} {C : CF} {a : Nat} {cm : Cm} {e : EV} (h : isC I D a cm) (ok : okCm cm) (hl : LT I (rdE C e).1 (rdE C e).2 (z32 (eS e : Int))) (k : ∀ I2, RF D I I2 → K (amtV C cm e) I2) : CI (d + 2) 139 [vR (some a), vR (some 67)] (mm I D) K := by
  have hk2 : ∀ J, pKd (mm J D) a = 2 := fun J => (mmK h.1).trans h.2.2.1
  have hr : pR (mm I D) a 3 = dR D a 3 := mmR (isFn_new h.1)
  refine s_Command_amountBy _ (tsP_i (hk2 _) ?_)
  rw [hr]
  rcases h.2.2.2.2.2.2.2 with ⟨q1, q2⟩ | ⟨c, f, q1, q2, q3⟩
  · rw [q2]
    have : amtV C cm e = z32 cm.2.1 := by unfold amtV; rw [q1]
    rw [this] at k
    refine (brP_t rfl).mpr (tsP_i (hk2 _) (qI_i ?_))
    rw [h.2.2.2.2.2.1]
    exact k I RF.rf
  · rw [q2]
    have : amtV C cm e = cutV (valV (env3 (rdE C e).1 (rdE C e).2 (z32 (eS e : Int))) c) := by unfold amtV; rw [q1]
    rw [this] at k
    refine (brP_f (by simp)).mpr (tsP_i (hk2 _) (onR_i rfl (tsP_i ((mmK q3.1).trans q3.2.2.1) ?_)))
    refine c_give67 (d := d) q3 (ok.2.2.2.2.2 c q1) hl (fun I2 g2 => ?_)
    rw [e_min, e_max]
    exact qI_i (k I2 g2.r)
theorem up2_ne' {D : DY} (a q j k : Nat) (I4 : IM) {v : Int32} (hq : ¬ (q = 67 ∨ (q = 55 ∧ k = 4) ∨ q = 56 ∨ q = 57 ∨ q = 60 ∨ q = 69 ∨ q = 70 ∨ q = 71 ∨ q = 78 ∨ (q = a ∧ 3 ≤ k) ∨ (159 ≤ q ∧ dW D q = 2))) (hj : 3 ≤ j := by omega) : up2 I4 a j v q k = I4 q k := if_neg (fun e => hq (by omega))
theorem c_handled {d : Nat} {I : IM} {D : DY} {K : Int32 → IM → Prop} {σ : SS} {i a : Nat} {e : EV} {x : QL} (h : RB 0 σ I D) (hv : zV σ ≤ 20) (he : (zL σ)[i]? = some e) (ho : okEv (zC σ) e) (hQ : isQ I D a x)
    (k : ∀ I2, NF D a I I2 → RB 0 (hndS σ x e).1 I2 D → isQ I2 D a (hndS σ x e).2.1 → K (b32 ((hndS σ x e).2.2 = true)) I2) : CI (d + 5) 137 [vR (some 54), vR (some a), vI (z32 ((i + 1 : Nat) : Int))] (mm I D) K := by
  have a1 : LG 55 I (zL σ) := h.1
  obtain ⟨⟨p1, p2, p3, p4⟩, ⟨fo, q2, q3⟩, q4, ⟨co, q5, q6⟩, q7, ⟨q8, q9, q10, q11⟩, q12⟩ := id hQ
  refine s_Store_hasHandled _ _ (c_read (d := d + 1) a1 h.2.2.1 he ho (fun I1 r1 lt1 => ?_))
  have h1 := h.qf r1.q
  have a11 : LG 55 I1 (zL σ) := h1.1
  have hQ1 : isQ I1 D a x := hQ.fr (fun j => r1 a j (by omega)) r1.im
  rw [e_lg (d := d + 2) a11 he (c := 2) (lit := 2) (by omega) rfl]
  refine onR_i rfl (tsP_i (hQ.k _) ?_)
  have e0 : I1 a 0 = qlM x := hQ1.2.2.2.2.2.1.1
  have hfor : ∀ {Z : Int32 → IM → Prop}, (∀ I2, GF D I1 I2 → Z (b32 ((qlM x >>> z32 (eK e : Int)) &&& 1 = 1 ∧ valV (env3 (rdE (zC σ) e).1 (rdE (zC σ) e).2 (z32 (eS e : Int))) (qlC x) ≠ 0)) I2) → CI (d + 4) 138 [vR (some a), vI (colE 2 e), vR (some 67)] (mm I1 D) Z := by
    intro Z kz
    refine s_Policy_isFor _ _ (tsP_i (hQ.k _) ?_)
    rw [e0]
    refine brP_i (fun q => qI_i ?_) (fun q => tsP_i (hQ.k _) (onR_i ((mmR (isFn_new p1)).trans q2) (tsP_i ((mmK q3.1).trans q3.2.2.1) ?_)))
    · have := kz I1 GF.rf
      rwa [b32_f (fun c => q c.1)] at this
    · have q := Classical.not_not.mp q
      refine c_give67 (d := d + 2) (q3.qf r1.im) q4 lt1 (fun I2 g2 => ?_)
      refine brP_i (fun z => qI_i ?_) (fun z => qI_i ?_)
      · have := kz I2 g2
        rwa [b32_f (fun c => c.2 z)] at this
      · have := kz I2 g2
        rwa [b32_t ⟨q, z⟩] at this
  refine hfor (fun I2 g2 => ?_)
  have h2 := h1.qf g2.q
  have hQ2 : isQ I2 D a x := hQ1.fr (fun j => g2 a j (Or.inr (by omega))) g2.im
  have n2 : NF D a I I2 := (r1.n).tr g2.r.n
  refine brP_i (fun z => onR_i rfl (tsP_i (hQ.k _) (onR_i ((mmR (isFn_new p1)).trans q5) (tsP_i ((mmK q6.1).trans q6.2.2.1) ?_)))) (fun z => qI_i ?_)
  · have z := Classical.not_not.mp (fun c => z (b32_0.mpr c))
    have lt2 := lt1.gf g2
    refine c_amountBy (d := d + 2) (C := zC σ) (e := e) ((q6.mf r1.im).mf g2.im) q7 lt2 (fun I3 r3 => ?_)
    have h3 := h2.qf r3.q
    have hQ3 : isQ I3 D a x := hQ2.fr (fun j => r3 a j (by omega)) r3.im
    have a13 : LG 55 I3 (zL σ) := h3.1
    rw [e_lg (d := d + 2) a13 he (c := 0) (lit := 0) (by omega) rfl]
    refine onR_i rfl (tsP_i (hQ.k _) ?_)
    rw [show pR (mm I3 D) a 2 = some co from (mmR (isFn_new p1)).trans q5]
    refine c_carry (d := d) h3 ho.1 (((q6.mf r1.im).mf g2.im).mf r3.im) q7 hv (fun I4 m4 h4 => ?_)
    have hQ4 : isQ I4 D a x := hQ3.fr (fun j => m4.at (by omega)) m4.im
    have n4 : NF D a I I4 := n2.tr (r3.n.tr m4.n)
    have eh : hndS σ x e = (if (carS σ (eS e) (qlK x) (amtV (zC σ) (qlK x) e)).2 = -3 then ((carS σ (eS e) (qlK x) (amtV (zC σ) (qlK x) e)).1, x, false)
     else if 0 < (carS σ (eS e) (qlK x) (amtV (zC σ) (qlK x) e)).2 then ((carS σ (eS e) (qlK x) (amtV (zC σ) (qlK x) e)).1, setQ x (qlP x) (qlD x + 1) (qlR x), true)
     else ((carS σ (eS e) (qlK x) (amtV (zC σ) (qlK x) e)).1, setQ x (qlP x) (qlD x) (qlR x + 1), true)) := if_pos z
    have e4 : I4 a 4 = qlD x := hQ4.2.2.2.2.2.1.2.2.1
    have e5 : I4 a 5 = qlR x := hQ4.2.2.2.2.2.1.2.2.2
    have up : ∀ j v, 3 ≤ j → ∀ q k, ¬ (q = a ∧ k = j) → up2 I4 a j v q k = I4 q k := fun j v _ q k hq => if_neg hq
    have upR : ∀ j v, RB 0 (carS σ (eS e) (qlK x) (amtV (zC σ) (qlK x) e)).1 (up2 I4 a j v) D := fun j v => h4.fr (fun q k hq => up2_ne (by unfold bP at hq; omega)) (fun q k _ _ hw => up2_ne (fun c => by rw [c] at hw; omega))
    refine brP_i (fun z2 => brP_i (fun z3 => onR_i rfl (tsP_i (hQ.k _) (onR_i rfl (tsP_i (hQ.k _) (qI_i ?_))))) (fun z3 => onR_i rfl (tsP_i (hQ.k _) (onR_i rfl (tsP_i (hQ.k _) (qI_i ?_)))))) (fun z2 => qI_i ?_)
    · rw [if_neg z2, if_neg (Int32.not_lt.mpr z3)] at eh
      rw [eh] at k
      rw [e5]
      refine k _ (n4.tr (fun q j hq => up2_ne' a q 5 j I4 hq)) (upR _ _) ?_
      obtain ⟨w1, ⟨wf, w2, w3⟩, w4, ⟨wc, w5, w6⟩, w7, ⟨w8, w9, w10, w11⟩, w12⟩ := hQ4
      have im : IMF I4 (up2 I4 a 5 (qlR x + 1)) D := fun q k _ _ hw => up2_ne (fun c => by rw [c] at hw; omega)
      exact ⟨w1, ⟨wf, w2, w3.qf im⟩, w4, ⟨wc, w5, w6.mf im⟩, w7, ⟨(up2_nj (by omega)).trans w8, (up2_nj (by omega)).trans w9, (up2_nj (by omega)).trans w10, up2_eq⟩, w12⟩
    · rw [if_neg z2, if_pos (Int32.not_le.mp z3)] at eh
      rw [eh] at k
      rw [e4]
      refine k _ (n4.tr (fun q j hq => up2_ne' a q 4 j I4 hq)) (upR _ _) ?_
      obtain ⟨w1, ⟨wf, w2, w3⟩, w4, ⟨wc, w5, w6⟩, w7, ⟨w8, w9, w10, w11⟩, w12⟩ := hQ4
      have im : IMF I4 (up2 I4 a 4 (qlD x + 1)) D := fun q k _ _ hw => up2_ne (fun c => by rw [c] at hw; omega)
      exact ⟨w1, ⟨wf, w2, w3.qf im⟩, w4, ⟨wc, w5, w6.mf im⟩, w7, ⟨(up2_nj (by omega)).trans w8, (up2_nj (by omega)).trans w9, up2_eq, (up2_nj (by omega)).trans w11⟩, w12⟩
    · rw [if_pos (Classical.not_not.mp z2)] at eh
      rw [eh] at k
      exact k I4 n4 h4 hQ4
  · have z := b32_0.mp (Classical.not_not.mp z)
    rw [show hndS σ x e = (σ, x, true) from if_neg z] at k
    exact k I2 n2 h2 hQ2
def ranS : Nat → SS → QL → Nat → SS × QL × Nat
  | 0, σ, x, h => (σ, x, h)
  | n + 1, σ, x, h => match (zL σ)[qlP x]? with
    | none => (σ, x, h)
    | some e => if (hndS σ x e).2.2 = true then ranS n (hndS σ x e).1 (setQ (hndS σ x e).2.1 (qlP x + 1) (qlD (hndS σ x e).2.1) (qlR (hndS σ x e).2.1)) (h + 1) else ((hndS σ x e).1, (hndS σ x e).2.1, h)
