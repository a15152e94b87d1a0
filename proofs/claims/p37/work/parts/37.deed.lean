/-! Upcasters come; events are handled by projections and policies. -/
def wC (σ : SS) (C : CF) : SS := (zL σ, C, zN σ, zA σ, zP σ, zQ σ, zE σ, zD σ, zV σ, zH σ)
def addC (C : CF) (k : Nat) (a b : Tx) : CF := updF C k (C k ++ [(a, b)])
def X65 (a : Nat) : Prop := a = 65 ∨ a = 66
theorem era_upd {C : CF} {k : Nat} {a b : Tx} (hk : k < 9) : eraC (addC C k a b) = eraC C + 1 := by
  have h : ∀ (f g : Nat → Nat) (l : List Nat), (∀ x ∈ l, f x = g x) → ∀ n, (l.map f).foldl (· + ·) n = (l.map g).foldl (· + ·) n := by
    intro f g l hl n
    rw [List.map_congr_left hl]
  unfold eraC
  have e9 : List.range 9 = [0, 1, 2, 3, 4, 5, 6, 7, 8] := by decide
  rw [e9]
  simp only [List.map_cons, List.map_nil, List.foldl_cons, List.foldl_nil]
  have hq : ∀ j, ((addC C k a b) j).length = (C j).length + (if j = k then 1 else 0) := fun j => by
    unfold addC
    by_cases e : j = k
    · subst e
      rw [updF_eq, if_pos rfl, List.length_append, List.length_singleton]
    · rw [updF_ne e, if_neg e]
      rfl
  simp only [hq]
  obtain rfl | rfl | rfl | rfl | rfl | rfl | rfl | rfl | rfl : k = 0 ∨ k = 1 ∨ k = 2 ∨ k = 3 ∨ k = 4 ∨ k = 5 ∨ k = 6 ∨ k = 7 ∨ k = 8 := by omega
  all_goals
    simp
    try omega
theorem c_fadd {d : Nat} {I : IM} {D : DY} {K : Int32 → IM → DY → Prop} {C : CF} {kd fa fb : Nat} {ca cb : Tx} (h : FM 63 I D C) (hz : 159 ≤ dZ D) (hk : kd < 9) (ha : isF I D fa ca) (hb : isF I D fb cb) (wa : cWF 3 ca) (wb : cWF 3 cb)
    (kk1 : (C kd).length = 3 → K (-3) I D) (kk2 : (C kd).length < 3 → ∀ I2 D2, (∀ q j, ¬ (q = 64 ∨ (q = 63 ∧ j = 4)) → I2 q j = I q j) → DX X65 D D2 0 0 → FM 63 I2 D2 (addC C kd ca cb) → K (z32 (((C kd).length + 2 : Nat) : Int)) I2 D2) :
    AI (d + 1) 75 [vR (some 63), vI (z32 (kd : Int)), vR (some fa), vR (some fb)] (mm I D) K := by
  have h3 := h.2.2.1.1 kd hk
  have e64 : I 64 kd = z32 ((C kd).length : Int) := h.2.1 kd hk
  have b9 : inB (z32 (kd : Int)) 9 := inB_n hk (by omega)
  have e0 : z32 (kd : Int) * 3 + z32 ((C kd).length : Int) = z32 ((kd * 3 + (C kd).length : Nat) : Int) := by
    show z32 _ * z32 3 + _ = _
    rw [z32_mul, z32_add]
    congr 1
  refine s_Formats_add _ _ _ ((brP_f (by rw [z32_0, z32_lt] <;> omega)).mpr ((brP_t (by show _ < z32 9; rw [z32_lt] <;> omega)).mpr (tsP_i b9 ?_)))
  rw [ix_n (by omega), e64, e0]
  refine brP_i (fun q => tsP_i b9 ?_) (fun q => aI_i rfl (kk1 ?_))
  · have q : z32 ((C kd).length : Int) < z32 3 := q
    rw [z32_lt (by omega) (by omega) (by omega) (by omega)] at q
    have b27 : inB (z32 ((kd * 3 + (C kd).length : Nat) : Int)) 27 := inB_n (by omega) (by omega)
    have ka : ∀ J D2, dK D2 fa = dK D fa → pKd (mm J D2) fa = 4 := fun J D2 e => (mmK ha.1).trans (e.trans ha.2.2.1)
    have kb : ∀ J D2, dK D2 fb = dK D fb → pKd (mm J D2) fb = 4 := fun J D2 e => (mmK hb.1).trans (e.trans hb.2.2.1)
    rw [ix_n (by omega)]
    refine (brP_f (by rw [z32_0, z32_lt] <;> omega)).mpr ((brP_f (by show ¬ z32 27 ≤ _; rw [z32_le] <;> omega)).mpr ((brP_t (by show _ < z32 27; rw [z32_lt] <;> omega)).mpr (tsP_i b27 (astP_i (fun b e => ?_) (tsP_i b27 (astP_i (fun b e => ?_) (tsP_i b9 (tsP_i b9 ?_))))))))
    · cases e
      exact ka I D rfl
    · cases e
      exact kb I D rfl
    simp only [setR_m (show isFn 65 (kd * 3 + (C kd).length) = false from rfl), setR_m (show isFn 66 (kd * 3 + (C kd).length) = false from rfl)]
    generalize hJ : up2 (up2 I 64 kd (z32 ((C kd).length : Int) + 1)) 63 4 (I 63 4 + 1) = J
    have hJo : ∀ q j, ¬ (q = 64 ∨ (q = 63 ∧ j = 4)) → J q j = I q j := fun q j e => by
      rw [← hJ]
      by_cases e2 : q = 63
      · subst e2
        rw [up2_nj (by omega), up2_ne (by omega)]
      · rw [up2_ne e2, up2_ne (by omega)]
    have hdx : DX X65 D (dset (dset D 65 (kd * 3 + (C kd).length) (some fa)) 66 (kd * 3 + (C kd).length) (some fb)) 0 0 := (DX.set (X := X65) (D := D) (a := 65) (Or.inl rfl)).tr (DX.set (X := X65) (a := 66) (Or.inr rfl))
    generalize hD : dset (dset D 65 (kd * 3 + (C kd).length) (some fa)) 66 (kd * 3 + (C kd).length) (some fb) = D2 at hdx
    have him : IMF I J D := fun q j h1 _ _ => hJo q j (by omega)
    have hX : ∀ a, 159 ≤ a → ¬ X65 a := fun a h q => by rcases q with q | q <;> omega
    have r65 : ∀ j, dR D2 65 j = if j = kd * 3 + (C kd).length then some fa else dR D 65 j := fun j => by
      rw [← hD]
      show up2 (up2 (dR D) 65 (kd * 3 + (C kd).length) (some fa)) 66 (kd * 3 + (C kd).length) (some fb) 65 j = _
      rw [up2_ne (by omega)]
      by_cases e : j = kd * 3 + (C kd).length
      · rw [e, up2_eq, if_pos rfl]
      · rw [up2_nj e, if_neg e]
    have r66 : ∀ j, dR D2 66 j = if j = kd * 3 + (C kd).length then some fb else dR D 66 j := fun j => by
      rw [← hD]
      show up2 (up2 (dR D) 65 (kd * 3 + (C kd).length) (some fa)) 66 (kd * 3 + (C kd).length) (some fb) 66 j = _
      by_cases e : j = kd * 3 + (C kd).length
      · rw [e, up2_eq, if_pos rfl]
      · rw [up2_nj e, if_neg e, up2_ne (by omega)]
    have hM : FM 63 J D2 (addC C kd ca cb) := by
      refine ⟨?_, fun k2 hk2 => ?_, ⟨fun k2 hk2 => ?_, fun k2 i c hk2 hc => ?_⟩, fun k2 i c hk2 hc => ?_, fun j b hj hbb => ?_⟩
      · rw [era_upd hk, ← hJ, up2_eq, h.1, z32_s]
      · show J 64 k2 = _
        unfold addC
        by_cases e : k2 = kd
        · subst e
          rw [updF_eq, List.length_append, List.length_singleton, ← hJ, up2_ne (by omega), up2_eq, z32_s]
        · rw [updF_ne e, ← hJ, up2_ne (by omega), up2_nj e]
          exact h.2.1 k2 hk2
      · unfold addC
        by_cases e : k2 = kd
        · subst e
          rw [updF_eq, List.length_append, List.length_singleton]
          omega
        · rw [updF_ne e]
          exact h.2.2.1.1 k2 hk2
      · unfold addC at hc
        by_cases e : k2 = kd
        · subst e
          rw [updF_eq] at hc
          rcases Nat.lt_or_ge i (C k2).length with g | g
          · rw [List.getElem?_append_left g] at hc
            exact h.2.2.1.2 k2 i c hk2 hc
          · have := lt_of_get hc
            rw [List.length_append, List.length_singleton] at this
            obtain rfl : i = (C k2).length := by omega
            rw [get_mid] at hc
            cases hc
            exact ⟨wa, wb⟩
        · rw [updF_ne e] at hc
          exact h.2.2.1.2 k2 i c hk2 hc
      · show (∃ fa, dR D2 65 (k2 * 3 + i) = some fa ∧ _) ∧ ∃ fb, dR D2 66 (k2 * 3 + i) = some fb ∧ _
        unfold addC at hc
        rw [r65, r66]
        by_cases e : k2 = kd
        · subst e
          rw [updF_eq] at hc
          rcases Nat.lt_or_ge i (C k2).length with g | g
          · rw [List.getElem?_append_left g] at hc
            rw [if_neg (by omega), if_neg (by omega)]
            obtain ⟨⟨f1, g1, g2⟩, f2, g3, g4⟩ := h.2.2.2.1 k2 i c hk2 hc
            exact ⟨⟨f1, g1, g2.mono hdx hX him⟩, f2, g3, g4.mono hdx hX him⟩
          · have := lt_of_get hc
            rw [List.length_append, List.length_singleton] at this
            obtain rfl : i = (C k2).length := by omega
            rw [get_mid] at hc
            cases hc
            rw [if_pos rfl, if_pos rfl]
            exact ⟨⟨fa, rfl, ha.mono hdx hX him⟩, fb, rfl, hb.mono hdx hX him⟩
        · rw [updF_ne e] at hc
          have hl2 := h.2.2.1.1 k2 hk2
          have := lt_of_get hc
          rw [if_neg (by omega), if_neg (by omega)]
          obtain ⟨⟨f1, g1, g2⟩, f2, g3, g4⟩ := h.2.2.2.1 k2 i c hk2 hc
          exact ⟨⟨f1, g1, g2.mono hdx hX him⟩, f2, g3, g4.mono hdx hX him⟩
      · have hb' : dR D2 65 j = some b ∨ dR D2 66 j = some b := hbb
        rw [r65, r66] at hb'
        have zz := hdx.1
        by_cases e : j = kd * 3 + (C kd).length
        · rw [if_pos e, if_pos e] at hb'
          rcases hb' with hb' | hb'
          · cases hb'
            exact ⟨ha.1, Nat.lt_of_lt_of_le ha.2.1 zz, ((hdx.2.2.2 _ ha.2.1).1).trans ha.2.2.1⟩
          · cases hb'
            exact ⟨hb.1, Nat.lt_of_lt_of_le hb.2.1 zz, ((hdx.2.2.2 _ hb.2.1).1).trans hb.2.2.1⟩
        · rw [if_neg e, if_neg e] at hb'
          obtain ⟨g1, g2, g3⟩ := h.2.2.2.2 j b hj hb'
          exact ⟨g1, Nat.lt_of_lt_of_le g2 zz, ((hdx.2.2.2 b g2).1).trans g3⟩
    rw [e_fmt hM hk]
    have el : ((addC C kd ca cb) kd).length + 1 = (C kd).length + 2 := by
      unfold addC
      rw [updF_eq, List.length_append, List.length_singleton]
    rw [el]
    exact aI_i rfl (kk2 (by omega) J D2 hJo hdx hM)
  · have q : ¬ z32 ((C kd).length : Int) < z32 3 := q
    rw [z32_lt (by omega) (by omega) (by omega) (by omega)] at q
    omega
theorem okEv.up {C : CF} {k : Nat} {a b : Tx} {e : EV} (h : okEv C e) : okEv (addC C k a b) e := by
  obtain ⟨h1, h2, h3, h4⟩ := h
  refine ⟨h1, h2, h3, Nat.le_trans h4 ?_⟩
  unfold addC
  by_cases e1 : eK e = k
  · rw [e1, updF_eq, List.length_append, List.length_singleton]
    omega
  · rw [updF_ne e1]
    exact Nat.le_refl _
def upcS (σ : SS) (k : Nat) (a b : Tx) : SS × Int32 := if (zC σ k).length < 3 then (wC σ (addC (zC σ) k a b), z32 (((zC σ k).length + 2 : Nat) : Int)) else (σ, -3)
/-- what an upcaster may change -/
def UF (D : DY) (I I2 : IM) : Prop := ∀ q k, q < dZ D → ¬ (q = 60 ∨ q = 64 ∨ (q = 63 ∧ k = 4)) → ¬ QFp D q k → I2 q k = I q k
theorem c_addUp {d : Nat} {I : IM} {D : DY} {K : Int32 → IM → DY → Prop} {σ : SS} {kd fa fb : Nat} {ca cb : Tx} (h : RB 0 σ I D) (ho : ∀ e ∈ zL σ, okEv (zC σ) e) (hz : 159 ≤ dZ D) (hk : kd < 9) (ha : isF I D fa ca) (hb : isF I D fb cb) (wa : cWF 3 ca) (wb : cWF 3 cb)
    (k : ∀ I2 D2, UF D I I2 → DX X65 D D2 0 0 → RB 0 (upcS σ kd ca cb).1 I2 D2 → K (upcS σ kd ca cb).2 I2 D2) :
    AI (d + 6) 74 [vR (some 54), vI (z32 (kd : Int)), vR (some fa), vR (some fb)] (mm I D) K := by
  obtain ⟨a1, a2, a3, a4, a5, a6, a7, a8, a9⟩ := id h
  have a1 : LG 55 I (zL σ) := a1
  refine s_Store_addUpcaster _ _ _ (c_fadd (d := d + 4) a3 hz hk ha hb wa wb (fun q => ?_) (fun q I1 D1 f1 x1 m1 => ?_))
  · rw [show upcS σ kd ca cb = (σ, -3) from if_neg (by omega)] at k
    exact (brP_t (by decide)).mpr (aI_i rfl (k I D (fun _ _ _ _ _ => rfl) DX.rf h))
  · rw [show upcS σ kd ca cb = (wC σ (addC (zC σ) kd ca cb), z32 (((zC σ kd).length + 2 : Nat) : Int)) from if_pos q] at k
    have l1 : LG 55 I1 (zL σ) := a1.fr (f1 _ _ (by omega)) (fun j => f1 _ _ (by omega)) (fun j => f1 _ _ (by omega))
    refine (brP_f (by rw [z32_0, z32_le] <;> omega)).mpr ?_
    have hl := a1.2.1
    rw [l1.1]
    refine c_foldPast (d := d) l1 m1 (fun e he => (ho e he).up) (Nat.le_refl _) (fun I2 q2 b2 => ?_)
    rw [e_bcopy (d := d + 4) BB59 BB61]
    have hW : ∀ q, q < dZ D → dW D1 q = dW D q := fun q hq => (x1.2.2.2 q hq).2.2.1
    have hun : UF D I (cpI I2 62 60 0 0 32) := fun q j h0 h1 h2 => by
      rw [cpI_ne (by omega), q2 q j (fun e => h2 (by
        unfold QFp at e ⊢
        by_cases g : 159 ≤ q ∧ dW D1 q = 2
        · rw [hW q h0] at g
          omega
        · omega)), f1 q j (by omega)]
    have lo : ∀ q j, q < 159 → ¬ (q = 60 ∨ q = 64 ∨ (q = 63 ∧ j = 4)) → ¬ (q = 58 ∨ q = 62 ∨ q = 67 ∨ q = 79 ∨ q = 53 ∨ (q = 55 ∧ j = 3) ∨ (q = 49 ∧ 4 ≤ j)) → cpI I2 62 60 0 0 32 q j = I q j := fun q j h1 h2 h3 => hun q j (by omega) h2 (by unfold QFp; omega)
    refine aI_i rfl (k _ D1 hun x1 ⟨a1.fr (lo _ _ (by omega) (by omega) (by omega)) (fun j => lo _ _ (by omega) (by omega) (by omega)) (fun j => lo _ _ (by omega) (by omega) (by omega)), ?_, ?_, a4.fr (fun j => lo _ _ (by omega) (by omega) (by omega)) (fun j => lo _ _ (by omega) (by omega) (by omega)) (fun j => lo _ _ (by omega) (by omega) (by omega)),
      fun j hj => (lo _ _ (by omega) (by omega) (by omega)).trans (a5 j hj), fun c hc => ?_, fun j hj => (lo _ _ (by omega) (by omega) (by omega)).trans (a7 j hj), (lo _ _ (by omega) (by omega) (by omega)).trans a8, (lo _ _ (by omega) (by omega) (by omega)).trans a9⟩)
    · have := b2.copy (c := 60)
      rw [List.take_length] at this
      exact this
    · refine FM.fr (I := I1) m1 ?_ (fun j => ?_) (fun q j hq1 hq2 hq3 => ?_)
      · rw [cpI_ne (by omega)]
        exact q2.at (by omega) (by omega)
      · rw [cpI_ne (by omega)]
        exact q2.at (by omega) (by omega)
      · rw [cpI_ne (by omega)]
        exact q2 q j (fun e => by unfold QFp at e; omega)
    · have := a6 c hc
      unfold seenP at this ⊢
      show match zE σ c with
        | none => _
        | some (s, v) => _
      rw [lo (76 + 0) c (by omega) (by omega) (by omega), lo (77 + 0) c (by omega) (by omega) (by omega)]
      exact this
