/-! The model's projections: swapped, delivered, looked at. -/
theorem hdl_eq {x : PJ} {kd s : Nat} {a b : Int32} : jF (hdl x kd s a b) = jF x ∧ jM (hdl x kd s a b) = jM x ∧ jY (hdl x kd s a b) = jY x ∧ jC (hdl x kd s a b) = jC x ∧ jP (hdl x kd s a b) = jP x := by
  unfold hdl
  split
  · exact ⟨rfl, rfl, rfl, rfl, rfl⟩
  · split <;> exact ⟨rfl, rfl, rfl, rfl, rfl⟩
theorem SPJ.hd {I : IM} {f : Nat} {x : PJ} {C : CF} {e : EV} {p : Nat} (h : SPJ I f x) : SPJ I f (hdlE C x e p) := by
  obtain ⟨a1, a2, a3, a4, a5⟩ := hdl_eq (x := x) (kd := eK e) (s := eS e) (a := (rdE C e).1) (b := (rdE C e).2)
  unfold SPJ
  show I 136 f = z32 (jF (hdl x (eK e) (eS e) (rdE C e).1 (rdE C e).2) : Int) ∧ I 137 f = jM (hdl x (eK e) (eS e) (rdE C e).1 (rdE C e).2) ∧ I 138 f = z32 (jY (hdl x (eK e) (eS e) (rdE C e).1 (rdE C e).2) : Int) ∧ CNM I (I 139 f) (54 + f) (jC (hdl x (eK e) (eS e) (rdE C e).1 (rdE C e).2)) ∧ jF (hdl x (eK e) (eS e) (rdE C e).1 (rdE C e).2) < 6 ∧ jY (hdl x (eK e) (eS e) (rdE C e).1 (rdE C e).2) < 3 ∧ cWF 3 (jC (hdl x (eK e) (eS e) (rdE C e).1 (rdE C e).2))
  rw [a1, a2, a3, a4]
  exact h
theorem SPJ.mv {I I2 : IM} {f : Nat} {x : PJ} (h : SPJ I f x) (h1 : ∀ q, 136 ≤ q → q ≤ 139 → I2 q f = I q f) (h3 : ∀ k, 245 * (54 + f) ≤ k → k < 245 * (54 + f) + 245 → I2 109 k = I 109 k) (h4 : I2 110 (54 + f) = I 110 (54 + f)) : SPJ I2 f x := by
  obtain ⟨a, b, c, e, z⟩ := h
  refine ⟨(h1 _ (by omega) (by omega)).trans a, (h1 _ (by omega) (by omega)).trans b, (h1 _ (by omega) (by omega)).trans c, ?_, z⟩
  rw [h1 139 (by omega) (by omega)]
  exact e.mv h3 h4
theorem PJX.s {I : IM} {f : Nat} {x : PJ} (h : PJX I f x) : SPJ I f x := ⟨h.1.1, h.1.2.1, h.1.2.2.1, h.1.2.2.2.1, h.2.2.1, h.2.2.2.1, h.2.2.2.2.2⟩
theorem PJX.r {I : IM} {f : Nat} {x : PJ} (h : PJX I f x) : RWG I 141 142 (9 * f) (jR x) := fun k hk => h.2.1 k hk
theorem PJX.mk {I : IM} {f : Nat} {x : PJ} (h : SPJ I f x) (hr : RWG I 141 142 (9 * f) (jR x)) (hp : I 140 f = z32 (jP x : Int)) (h240 : jP x ≤ 240) : PJX I f x := ⟨⟨h.1, h.2.1, h.2.2.1, h.2.2.2.1, hp⟩, fun k hk => hr k hk, h.2.2.2.2.1, h.2.2.2.2.2.1, h240, h.2.2.2.2.2.2⟩
/-- what a delivery may change -/
def DFr (f : Nat) (I I2 : IM) : Prop := ∀ q k, ¬ (q = 111 ∨ (q = 112 ∧ k < 3) ∨ (q = 106 ∧ (k = 25 ∨ k = 26)) ∨ ((q = 141 ∨ q = 142) ∧ 9 * f ≤ k ∧ k < 9 * f + 9) ∨ (q = 140 ∧ k = f) ∨ q = 125) → I2 q k = I q k
theorem DFr.rf {f : Nat} {I : IM} : DFr f I I := fun _ _ _ => rfl
theorem DFr.tr {f : Nat} {I I2 I3 : IM} (h : DFr f I I2) (h2 : DFr f I2 I3) : DFr f I I3 := fun q k e => (h2 q k e).trans (h q k e)
theorem deliver_loop {d : Nat} {D : DY} {K : Int32 → IM → Prop} {C : CF} {L : List EV} {I0 : IM} {p w n f0 f : Nat} (hE : EVM I0 L) (hC : CSM I0 C) (ho : ∀ e ∈ L, okEv C e) (hp : p < 4) (hw : w < 2) (hf : f = 2 * p + w) (hn : n ≤ 240) (hf0 : 1 ≤ f0 ∧ f0 ≤ 2147483647) :
    ∀ (g i h : Nat) (J : IM) (x : PJ) (ld : Nat → Int32) (v : PV), i + g = n → h ≤ i → DFr f I0 J → PJX J f x → (∀ k, k < 7 → J 125 k = ld k) →
    (∀ I2, DFr f I0 I2 → PJX I2 f (dlv C L g (f0 + i) x ld h).1 → (∀ k, k < 7 → I2 125 k = (dlv C L g (f0 + i) x ld h).2.1 k) → K (z32 ((dlv C L g (f0 + i) x ld h).2.2 : Int)) I2) →
    Wp GG (d + 5) 241 61 [vR (some 106), vI (z32 (p : Int)), vI (z32 (w : Int)), vI (z32 (f0 : Int)), vI (z32 (n : Int)), vI (z32 (f : Int)), vI (z32 (h : Int)), vI (z32 (i : Int)), v] [] (mm J D) (qI (mm I0 D) K) := by
  have h240 := hE.2.1
  have hf8 : f < 8 := by omega
  have hb8 : inB (z32 (f : Int)) 8 := inB_n hf8 (by omega)
  have ixf : ixN (z32 (f : Int)) = f := ix_n (by omega)
  intro g
  induction g with
  | zero =>
    intro i h J x ld v hi hh fr hX hl k
    exact s_M_deliver_61 _ _ _ _ _ _ _ _ ((brP_t (by rw [z32_le] <;> omega)).mpr ⟨_, _, rfl, rfl, k J fr hX hl⟩)
  | succ g ih =>
    intro i h J x ld v hi hh fr hX hl k
    have ed : dlv C L (g + 1) (f0 + i) x ld h = (match L[f0 + i - 1]? with
      | none => (x, ld, h)
      | some e => if jP x + 1 < f0 + i then (x, updF ld 6 (ld 6 + 1), h) else if f0 + i ≤ jP x then dlv C L g (f0 + i + 1) x (updF ld 5 (ld 5 + 1)) h else dlv C L g (f0 + i + 1) (hdlE C x e (f0 + i)) (updF ld 4 (ld 4 + 1)) (h + 1)) := rfl
    rw [ed] at k
    have hEJ : EVM J L := hE.mv (fun q j z => fr q j (by unfold ZE at z; omega))
    have hCJ : CSM J C := hC.mv (fun q j z => fr q j (by unfold ZC at z; omega))
    have hjp := hX.2.2.2.2.1
    have led : ∀ {G : IM} {j : Nat}, (∀ q, q < 7 → G 125 q = ld q) → j < 7 → ∀ q, q < 7 → up2 G 125 j (G 125 j + 1) 125 q = updF ld j (ld j + 1) q := fun {G j} hG hj q hq => by
      by_cases c : q = j
      · subst c
        rw [up2_eq, hG q hq]
        exact (if_pos rfl).symm
      · rw [up2_nj c, hG q hq]
        exact (if_neg c).symm
    refine s_M_deliver_61 _ _ _ _ _ _ _ _ ((brP_f (by rw [z32_le] <;> omega)).mpr ?_)
    rw [hEJ.1, z32_sub]
    refine brP_i (fun q => ?_) (fun q => tsP_i hb8 ?_)
    · rw [z32_lt (by omega) (by omega) (by omega) (by omega)] at q
      rw [List.getElem?_eq_none (by omega)] at k
      exact ⟨_, _, rfl, rfl, k J fr hX hl⟩
    · rw [z32_lt (by omega) (by omega) (by omega) (by omega)] at q
      obtain ⟨e, he⟩ : ∃ e, L[f0 + i - 1]? = some e := ⟨L[f0 + i - 1]'(by omega), List.getElem?_eq_getElem (by omega)⟩
      rw [he] at k
      dsimp only at k
      rw [ixf, hX.1.2.2.2.2, addn, z32_s (jP x), z32_s i]
      refine brP_i (fun q1 => tsP_i hb8 (brP_i (fun q2 => ?_) (fun q2 => ⟨_, _, rfl, rfl, ?_⟩))) (fun q1 => ?_)
      · rw [z32_lt (by omega) (by omega) (by omega) (by omega)] at q1
        rw [z32_le (by omega) (by omega) (by omega) (by omega)] at q2
        rw [if_neg (by omega), if_neg (by omega)] at k
        have hs : CI (d + 4) 238 [vI (z32 (p : Int)), vI (z32 (w : Int))] (mm J D) (fun y I2 => y = z32 ((54 + f : Nat) : Int) ∧ I2 = J) := s_M_projectionSlot _ _ (qI_i ⟨by rw [mul2]; show z32 ((54 : Nat) : Int) + _ + _ = _; rw [addn, addn]; congr 2; omega, rfl⟩)
        rw [CI_iff hs, mul9]
        have ep : f0 + i = (f0 + i - 1) + 1 := by omega
        rw [ep]
        refine c_mhandleA (d := d) (x := x) hEJ hCJ he (ho e (List.mem_of_getElem? he)) hf8 (by omega) hX.s hX.r (fun I2 f2 r2 => tsP_i hb8 (tsP_i hb8 ?_))
        have e140 : I2 140 f = z32 (jP x : Int) := (f2 _ _ (by omega)).trans hX.1.2.2.2.2
        rw [e140, z32_s (jP x), z32_s h]
        generalize hG : up2 (up2 I2 140 f (z32 ((jP x + 1 : Nat) : Int))) 125 4 (I2 125 4 + 1) = G
        have fG : DFr f J G := fun q j c => by rw [← hG, up2_if, if_neg (by omega), up2_if, if_neg (by omega)]; exact f2 q j (by omega)
        have hG4 : ∀ q, q < 7 → G 125 q = updF ld 4 (ld 4 + 1) q := by
          have := led (G := I2) (j := 4) (fun q hq => (f2 _ _ (by omega)).trans (hl q hq)) (by omega)
          intro q hq
          rw [← this q hq, ← hG]
          by_cases c : q = 4
          · rw [c, up2_eq, up2_eq]
          · rw [up2_nj c, up2_nj c, up2_ne (by omega)]
        have eP : jP x + 1 = f0 + i := by omega
        have k := k
        rw [show f0 + i + 1 = f0 + (i + 1) by omega] at k
        have hXG : PJX G f (hdlE C x e (f0 + i)) := by
          refine PJX.mk ((hX.s.hd).mv (fun q a b => fG q f (by omega)) (fun t _ _ => fG _ _ (by omega)) (fG _ _ (by omega))) (fun j hj => ?_) ?_ (by show f0 + i ≤ 240; omega)
          · have := r2 j hj
            show match jR (hdl x (eK e) (eS e) (rdE C e).1 (rdE C e).2) j with
              | none => _
              | some v => _
            have g1 : G 141 (9 * f + j) = I2 141 (9 * f + j) := by rw [← hG, up2_ne (by omega), up2_ne (by omega)]
            have g2 : G 142 (9 * f + j) = I2 142 (9 * f + j) := by rw [← hG, up2_ne (by omega), up2_ne (by omega)]
            rw [g1, g2]
            exact this
          · show G 140 f = z32 ((f0 + i : Nat) : Int)
            rw [← hG, up2_ne (by omega), up2_eq, eP]
        exact ih (i + 1) (h + 1) G _ _ _ (by omega) (by omega) (fr.tr fG) hXG hG4 k
      · rw [z32_le (by omega) (by omega) (by omega) (by omega)] at q2
        rw [if_pos (by omega)] at k
        have fu : ∀ q j, q ≠ 125 → up2 J 125 6 (J 125 6 + 1) q j = J q j := fun q j c => up2_ne c
        exact k _ (fr.tr (fun q j c => fu q j (by omega))) (hX.mv hf8 (fun q _ _ => fu _ _ (by omega)) (fun q j _ _ _ => fu _ _ (by omega)) (fun t _ _ => fu _ _ (by omega)) (fu _ _ (by omega))) (led hl (by omega))
      · rw [z32_lt (by omega) (by omega) (by omega) (by omega)] at q1
        rw [if_neg (by omega), if_pos (by omega)] at k
        have fu : ∀ q j, q ≠ 125 → up2 J 125 5 (J 125 5 + 1) q j = J q j := fun q j c => up2_ne c
        rw [show f0 + i + 1 = f0 + (i + 1) by omega] at k
        exact ih (i + 1) h _ _ _ _ (by omega) (by omega) (fr.tr (fun q j c => fu q j (by omega))) (hX.mv hf8 (fun q _ _ => fu _ _ (by omega)) (fun q j _ _ _ => fu _ _ (by omega)) (fun t _ _ => fu _ _ (by omega)) (fu _ _ (by omega))) (led hl (by omega)) k
def cntR (r : Nat → Option Int32) : List Nat → Nat
  | [] => 0
  | k :: l => (bif (r k).isSome then 1 else 0) + cntR r l
theorem mkB_9 : ∀ b0 b1 b2 b3 b4 b5 b6 b7 b8 : Bool, ppc (mkB [b0, b1, b2, b3, b4, b5, b6, b7, b8]) = (bif b0 then 1 else 0) + ((bif b1 then 1 else 0) + ((bif b2 then 1 else 0) + ((bif b3 then 1 else 0) + ((bif b4 then 1 else 0) + ((bif b5 then 1 else 0) + ((bif b6 then 1 else 0) + ((bif b7 then 1 else 0) + ((bif b8 then 1 else 0) + 0)))))))) := by decide +kernel
theorem cntR_eq (r : Nat → Option Int32) : cntR r (List.range' 0 9) = ppc (mskR r) := (mkB_9 (r 0).isSome (r 1).isSome (r 2).isSome (r 3).isSome (r 4).isSome (r 5).isSome (r 6).isSome (r 7).isSome (r 8).isSome).symm
theorem truV_loop {d : Nat} {D : DY} {Q : Option PV → PM → Prop} {C : CF} {L : List EV} {I0 : IM} {f n : Nat} (hE : EVM I0 L) (hC : CSM I0 C) (ho : ∀ e ∈ L, okEv C e) (hf : f < 8) (h140 : I0 140 f = z32 (n : Int)) (hn : n ≤ L.length) :
    ∀ (g i : Nat) (J : IM) (x : PJ), i + g = n → HFB 0 I0 J → SPJ J f x → RWG J 143 144 0 (jR x) → (∀ I2, HFB 0 I0 I2 → RWG I2 143 144 0 (jR (truV C L g (i + 1) x)) → Wp GG (d + 5) 247 57 [vR (some 106), vI (z32 (f : Int)), vI (z32 ((54 + f : Nat) : Int)), vI 0] [] (mm I2 D) Q) →
    Wp GG (d + 5) 247 23 [vR (some 106), vI (z32 (f : Int)), vI (z32 ((54 + f : Nat) : Int)), vI (z32 ((i + 1 : Nat) : Int))] [] (mm J D) Q := by
  have h240 := hE.2.1
  have hb8 : inB (z32 (f : Int)) 8 := inB_n hf (by omega)
  intro g
  induction g with
  | zero =>
    intro i J x hi fr hx hr k
    refine s_M_isTrue_23 _ _ _ (tsP_i hb8 ?_)
    rw [ix_n (by omega), fr 140 f (by omega), h140]
    exact (brP_t (by rw [z32_lt] <;> omega)).mpr (k J fr hr)
  | succ g ih =>
    intro i J x hi fr hx hr k
    have hEJ : EVM J L := hE.mv (fun q j z => fr q j (by unfold ZE at z; omega))
    have hCJ : CSM J C := hC.mv (fun q j z => fr q j (by unfold ZC at z; omega))
    obtain ⟨e, he⟩ : ∃ e, L[i]? = some e := ⟨L[i]'(by omega), List.getElem?_eq_getElem (by omega)⟩
    have et : truV C L (g + 1) (i + 1) x = truV C L g (i + 1 + 1) (hdlE C x e (i + 1)) := by
      show (match L[i + 1 - 1]? with
        | none => x
        | some e => truV C L g (i + 1 + 1) (hdlE C x e (i + 1))) = _
      rw [Nat.add_sub_cancel, he]
    rw [et] at k
    refine s_M_isTrue_23 _ _ _ (tsP_i hb8 ?_)
    rw [ix_n (by omega), fr 140 f (by omega), h140]
    refine (brP_f (by rw [z32_lt] <;> omega)).mpr ?_
    refine c_mhandleB (d := d) (base := 0) (x := x) hEJ hCJ he (ho e (List.mem_of_getElem? he)) hf (by omega) hx hr (fun I2 f2 r2 => ?_)
    rw [z32_s]
    exact ih (i + 1) I2 (hdlE C x e (i + 1)) (by omega) (fr.tr f2) ((hx.hd).mv (fun q _ _ => f2 _ _ (by omega)) (fun t _ _ => f2 _ _ (by omega)) (f2 _ _ (by omega))) r2 k
theorem same_loopM {d : Nat} {I : IM} {D : DY} {Q : Option PV → PM → Prop} {f : Nat} {p2 : Int32} {r r2 : Nat → Option Int32} (hf : f < 8) (hr : RWG I 141 142 (9 * f) r) (hr2 : RWG I 143 144 0 r2) :
    ∀ (g i : Nat), i + g = 9 → Q (some (vI (rsame r r2 (List.range' i g)))) (mm I D) → Wp GG (d + 1) 247 57 [vR (some 106), vI (z32 (f : Int)), vI p2, vI (z32 (i : Int))] [] (mm I D) Q := by
  intro g
  induction g with
  | zero =>
    intro i hi k
    obtain rfl : i = 9 := by omega
    exact s_M_isTrue_57 _ _ _ ((brP_t (by decide)).mpr k)
  | succ g ih =>
    intro i hi k
    have h9 : inB (z32 (i : Int)) 9 := inB_n (by omega) (by omega)
    have h72 : inB (z32 ((9 * f + i : Nat) : Int)) 72 := inB_n (by omega) (by omega)
    have k : Q (some (vI (if r i = r2 i then rsame r r2 (List.range' (i + 1) g) else 0))) (mm I D) := k
    have a := hr i (by omega)
    have b := hr2 i (by omega)
    rw [Nat.zero_add] at b
    refine s_M_isTrue_57 _ _ _ ((brP_f (by show ¬ z32 9 ≤ _; rw [z32_le] <;> omega)).mpr (tsP_i h9 ?_))
    rw [mul9, addn]
    refine tsP_i h72 ?_
    rw [ix_n (by omega), ix_n (n := 9 * f + i) (by omega), z32_s]
    cases hc : r i with
    | none =>
      cases hc2 : r2 i with
      | none =>
        rw [hc] at a k
        rw [hc2] at b k
        have a : I 141 (9 * f + i) = 0 := a
        have b : I 143 i = 0 := b
        rw [a, b]
        rw [if_pos rfl] at k
        exact (brP_f (fun c => c rfl)).mpr (tsP_i h9 ((brP_t (by decide)).mpr (ih (i + 1) (by omega) k)))
      | some v =>
        rw [hc] at a k
        rw [hc2] at b k
        have a : I 141 (9 * f + i) = 0 := a
        rw [a, b.1]
        rw [if_neg (by simp)] at k
        exact (brP_t (by decide)).mpr k
    | some u =>
      cases hc2 : r2 i with
      | none =>
        rw [hc] at a k
        rw [hc2] at b k
        have b : I 143 i = 0 := b
        rw [a.1, b]
        rw [if_neg (by simp)] at k
        exact (brP_t (by decide)).mpr k
      | some v =>
        rw [hc] at a k
        rw [hc2] at b k
        rw [a.1, b.1, a.2, b.2]
        refine (brP_f (fun c => c rfl)).mpr (tsP_i h9 ((brP_f (fun c => c rfl)).mpr (tsP_i h9 (tsP_i h72 (brP_i (fun c => ?_) (fun c => ?_))))))
        · rw [if_pos (by rw [c])] at k
          exact ih (i + 1) (by omega) k
        · rw [if_neg (fun e => c (by injection e with e; exact e.symm))] at k
          exact k
section
variable {d : Nat} {I : IM} {D : DY} {τ : ST}
theorem q_deliver {K : Int32 → IM → Prop} (h : RM τ I) (wf : WF (tS τ)) (p w f n : Int32) (k : ∀ I2, FrC I I2 → RM (S_deliver τ p w f n).1 I2 → K (S_deliver τ p w f n).2 I2) : CI (d + 100) 241 [vR (some 106), vI p, vI w, vI f, vI n] (mm I D) K := by
  unfold S_deliver at k
  refine s_M_deliver _ _ _ _ ?_
  rw [e_mproj]
  refine br0 (fun hp => ?_) (fun hp => qI_i ?_)
  rotate_left
  · rw [if_neg (fun c => hp c.1)] at k
    exact k I FrC.rf h
  rw [e_in]
  refine br0 (fun hw => ?_) (fun hw => qI_i ?_)
  rotate_left
  · rw [if_neg (fun c => hw c.2.1)] at k
    exact k I FrC.rf h
  refine brP_i (fun hf => qI_i ?_) (fun hf => ?_)
  · rw [if_neg (fun c => c.2.2.1 hf)] at k
    exact k I FrC.rf h
  rw [e_in]
  refine br1 (fun hn => ?_) (fun hn => qI_i ?_)
  rotate_left
  · rw [if_neg (fun c => hn ⟨c.2.2.2.1, c.2.2.2.2⟩)] at k
    exact k I FrC.rf h
  have hn : 1 ≤ n ∧ n ≤ 240 := hn
  rw [if_pos ⟨hp, hw, hf, hn.1, hn.2⟩] at k
  obtain ⟨pn, rfl, hpn⟩ := rng (m := 3) (by omega) hp
  obtain ⟨wn, rfl, hwn⟩ := rng (m := 1) (by omega) hw
  obtain ⟨nn, rfl, hnn⟩ := rng1 (m := 240) (by omega) hn
  have hfi : 1 ≤ f.toInt := by
    rw [show (1 : Int32) = z32 1 from rfl, lt_lit (by omega) (by omega)] at hf
    omega
  have hfb := (i32_b f).2
  obtain ⟨fn, hfn⟩ : ∃ fn : Nat, f.toInt = (fn : Int) := ⟨f.toInt.toNat, by omega⟩
  have ef : f = z32 (fn : Int) := by rw [← hfn]; exact z32_of f
  have ea : aN f = fn := by unfold aN; omega
  rw [aN_z (by omega), aN_z (by omega), aN_z (by omega), ea] at k
  subst ef
  have hP := h.P.1 wn pn (by omega) (by omega)
  rw [mul2, addn]
  refine tsP_i (inB_n (by omega) (by omega)) ?_
  rw [ix_n (by omega)]
  cases hz : zP (tS τ) wn pn with
  | none =>
    rw [hz] at hP k
    have hP : I 135 (2 * pn + wn) = 0 := hP
    exact (brP_f (by rw [hP]; decide)).mpr (qI_i (k I FrC.rf h))
  | some x =>
    rw [hz] at hP k
    refine (brP_t (by rw [hP.1]; decide)).mpr ?_
    refine deliver_loop (d := d + 95) (I0 := I) h.E h.C wf.1 (p := pn) (w := wn) (f0 := fn) (by omega) (by omega) rfl (by omega) (by omega) (nn + 1) 0 0 I x (zD (tS τ)) vT (Nat.zero_add _) (Nat.le_refl _) DFr.rf hP.2 h.G (fun I2 f2 x2 l2 => ?_)
    rw [Nat.add_zero] at x2 l2 ⊢
    have k : ∀ J, FrC I J → RM (tT τ, wD (setPJ (tS τ) wn pn (some (dlv (zC (tS τ)) (zL (tS τ)) (nn + 1) fn x (zD (tS τ)) 0).1)) (dlv (zC (tS τ)) (zL (tS τ)) (nn + 1) fn x (zD (tS τ)) 0).2.1, tI τ) J → K (z32 ((dlv (zC (tS τ)) (zL (tS τ)) (nn + 1) fn x (zD (tS τ)) 0).2.2 : Int)) J := k
    refine k I2 (fun q j e => f2 q j (by omega)) ⟨h.1.fr (f2 _ _ (by omega)) (fun j => f2 _ _ (by omega)), h.2.1.fr (fun j => f2 _ _ (by omega)), ?_, h.2.2.2.mv (f2 _ _ (by omega)) (fun j => f2 _ _ (by omega)) (fun j hj => f2 _ _ (by omega)) (fun j hj => f2 _ _ (by omega))⟩
    obtain ⟨cE, cC, cN, cA, cP2, cQ, cY, cD, cV, cH⟩ := h.2.2.1
    refine ⟨cE.mv (fun q j z => f2 q j (by unfold ZE at z; omega)), cC.mv (fun q j z => f2 q j (by unfold ZC at z; omega)), cN.mv (fun q j z => f2 q j (by unfold ZS at z; omega)), fun j hj => (f2 _ _ (by omega)).trans (cA j hj), ⟨fun w2 p2 hw2 hp2 => ?_, fun p2 hp2 h0 => ?_⟩, cQ.mv (fun q j z => f2 q j (by unfold ZQ at z; omega)), cY.mv (fun q j z => f2 q j (by unfold ZY at z; omega)), l2, (f2 _ _ (by omega)).trans cV, (f2 _ _ (by omega)).trans cH⟩
    · show PJM I2 (2 * p2 + w2) (if w2 = wn ∧ p2 = pn then some (dlv (zC (tS τ)) (zL (tS τ)) (nn + 1) fn x (zD (tS τ)) 0).1 else zP (tS τ) w2 p2)
      by_cases q : w2 = wn ∧ p2 = pn
      · rw [if_pos q, q.1, q.2]
        exact ⟨(f2 _ _ (by omega)).trans hP.1, x2⟩
      · rw [if_neg q]
        have hne : 2 * p2 + w2 ≠ 2 * pn + wn := fun c => q ⟨by omega, by omega⟩
        exact (cP2.1 w2 p2 hw2 hp2).mv (by omega) (fun q _ _ => f2 _ _ (by omega)) (fun q k _ _ _ => f2 _ _ (by omega)) (fun k _ _ => f2 _ _ (by omega)) (f2 _ _ (by omega))
    · have h0 : (if 0 = wn ∧ p2 = pn then some (dlv (zC (tS τ)) (zL (tS τ)) (nn + 1) fn x (zD (tS τ)) 0).1 else zP (tS τ) 0 p2) = none := h0
      show (if 1 = wn ∧ p2 = pn then some (dlv (zC (tS τ)) (zL (tS τ)) (nn + 1) fn x (zD (tS τ)) 0).1 else zP (tS τ) 1 p2) = none
      by_cases q0 : 0 = wn ∧ p2 = pn
      · rw [if_pos q0] at h0
        cases h0
      · rw [if_neg q0] at h0
        have h1 := cP2.2 p2 hp2 h0
        by_cases q1 : 1 = wn ∧ p2 = pn
        · rw [← q1.1, ← q1.2, h1] at hz
          cases hz
        · rw [if_neg q1]
          exact h1
theorem e_isOne {K : Int32 → IM → Prop} (h : RM τ I) (p w : Int32) : CI (d + 2) 246 [vR (some 106), vI p, vI w] (mm I D) K ↔ K (b32 ((0 ≤ p ∧ p ≤ 3) ∧ (0 ≤ w ∧ w ≤ 1) ∧ zP (tS τ) (aN w) (aN p) ≠ none)) I := by
  refine CI_iff (s_M_isOne _ _ ?_)
  rw [e_mproj]
  refine br0 (fun hp => ?_) (fun hp => qI_i ⟨(b32_f (fun c => hp c.1)).symm, rfl⟩)
  rw [e_in]
  refine br0 (fun hw => ?_) (fun hw => qI_i ⟨(b32_f (fun c => hw c.2.1)).symm, rfl⟩)
  obtain ⟨pn, rfl, hpn⟩ := rng (m := 3) (by omega) hp
  obtain ⟨wn, rfl, hwn⟩ := rng (m := 1) (by omega) hw
  have hP := h.P.1 wn pn (by omega) (by omega)
  rw [mul2, addn, aN_z (by omega), aN_z (by omega)]
  refine tsP_i (inB_n (by omega) (by omega)) ?_
  rw [ix_n (by omega)]
  cases hz : zP (tS τ) wn pn with
  | none =>
    rw [hz] at hP
    have hP : I 135 (2 * pn + wn) = 0 := hP
    exact (brP_t (by rw [hP]; decide)).mpr (qI_i ⟨(b32_f (fun c => c.2.2 rfl)).symm, rfl⟩)
  | some x =>
    rw [hz] at hP
    exact (brP_f (by rw [hP.1]; decide)).mpr (qI_i ⟨(b32_t ⟨hp, hw, by simp⟩).symm, rfl⟩)
theorem look_loop {K : Int32 → IM → Prop} {p1 p2 p3 : Int32} {f : Nat} {r : Nat → Option Int32} (hf : f < 8) (hr : RWG I 141 142 (9 * f) r) : ∀ (g i n : Nat) (s : Int32), i + g = 9 →
    Wp GG (d + 1) 245 29 [vR (some 106), vI p1, vI p2, vI p3, vI (z32 (f : Int)), vI (z32 ((n + cntR r (List.range' i g) : Nat) : Int)), vI (rsum r (List.range' i g) s), vI 9] [] (mm I D) (qI (mm I D) K) →
    Wp GG (d + 1) 245 29 [vR (some 106), vI p1, vI p2, vI p3, vI (z32 (f : Int)), vI (z32 (n : Int)), vI s, vI (z32 (i : Int))] [] (mm I D) (qI (mm I D) K) := by
  intro g
  induction g with
  | zero =>
    intro i n s hi k
    obtain rfl : i = 9 := by omega
    exact k
  | succ g ih =>
    intro i n s hi k
    have h72 : inB (z32 ((9 * f + i : Nat) : Int)) 72 := inB_n (by omega) (by omega)
    have k : Wp GG (d + 1) 245 29 [vR (some 106), vI p1, vI p2, vI p3, vI (z32 (f : Int)), vI (z32 ((n + ((bif (r i).isSome then 1 else 0) + cntR r (List.range' (i + 1) g)) : Nat) : Int)), vI (rsum r (List.range' (i + 1) g) (match r i with
      | none => s
      | some v => s + v)), vI 9] [] (mm I D) (qI (mm I D) K) := k
    have a := hr i (by omega)
    refine s_M_look_29 _ _ _ _ _ _ _ ((brP_f (by show ¬ z32 9 ≤ _; rw [z32_le] <;> omega)).mpr ?_)
    rw [mul9, addn]
    refine tsP_i h72 ?_
    rw [ix_n (by omega), z32_s, z32_s]
    cases hc : r i with
    | none =>
      rw [hc] at a k
      have a : I 141 (9 * f + i) = 0 := a
      rw [a]
      rw [Option.isSome_none, cond_false, Nat.zero_add] at k
      exact (brP_f (by decide)).mpr (ih (i + 1) n s (by omega) k)
    | some v =>
      rw [hc] at a k
      rw [a.1, a.2]
      rw [Option.isSome_some, cond_true, ← Nat.add_assoc] at k
      exact (brP_t (by decide)).mpr (tsP_i h72 (ih (i + 1) (n + 1) (s + v) (by omega) k))
theorem q_look {K : Int32 → IM → Prop} (h : RM τ I) (wf : WF (tS τ)) (p w q : Int32) (k : ∀ I2, FrC I I2 → RM τ I2 → K (S_look τ p w q) I2) : CI (d + 100) 245 [vR (some 106), vI p, vI w, vI q] (mm I D) K := by
  have h240 := h.E.2.1
  unfold S_look at k
  refine s_M_look _ _ _ ?_
  rw [e_isOne h]
  refine br1 (fun hc => ?_) (fun hc => qI_i ?_)
  rotate_left
  · have k := k I FrC.rf h
    by_cases c : (0 ≤ p ∧ p ≤ 3) ∧ (0 ≤ w ∧ w ≤ 1) ∧ 0 ≤ q ∧ q ≤ 4
    · rw [if_pos c] at k
      have hz : zP (tS τ) (aN w) (aN p) = none := Classical.not_not.mp (fun e => hc ⟨c.1, c.2.1, e⟩)
      rw [hz] at k
      exact k
    · rw [if_neg c] at k
      exact k
  obtain ⟨hp, hw, hz0⟩ := hc
  obtain ⟨pn, rfl, hpn⟩ := rng (m := 3) (by omega) hp
  obtain ⟨wn, rfl, hwn⟩ := rng (m := 1) (by omega) hw
  rw [aN_z (by omega), aN_z (by omega)] at k
  rw [aN_z (by omega), aN_z (by omega)] at hz0
  obtain ⟨x, hz⟩ := Option.ne_none_iff_exists'.mp hz0
  have hP := h.P.1 wn pn (by omega) (by omega)
  rw [hz] at hP
  rw [hz] at k
  obtain ⟨p0, hX⟩ := hP
  rw [mul2, addn]
  obtain ⟨f, hf⟩ : ∃ f, f = 2 * pn + wn := ⟨_, rfl⟩
  rw [← hf] at hX ⊢
  have hf8 : f < 8 := by omega
  have hb8 : inB (z32 (f : Int)) 8 := inB_n hf8 (by omega)
  have ixf : ixN (z32 (f : Int)) = f := ix_n (by omega)
  have hjp := hX.2.2.2.2.1
  have hjl := wf.2.2.2.2.1 wn pn x (by omega) (by omega) hz
  refine look_loop (d := d + 99) hf8 hX.r 9 0 0 0 rfl (s_M_look_29 _ _ _ _ _ _ _ ((brP_t (by decide)).mpr ?_))
  rw [Nat.zero_add, cntR_eq, ixf, hX.1.2.2.2.2, h.E.1]
  have kk : ∀ J, FrC I J → RM τ J → (0 ≤ q ∧ q ≤ 4) → K (if q = 0 then z32 (jP x : Int) else if q = 1 then z32 (ppc (mskR (jR x)) : Int) else if q = 2 then z32 ((zL (tS τ)).length : Int) - z32 (jP x : Int) else if q = 3 then (if rsame (jR x) (jR (truV (zC (tS τ)) (zL (tS τ)) (jP x) 1 (newJ x))) (List.range' 0 9) = 0 then 0 else 1) else rsum (jR x) (List.range' 0 9) 0) J := fun J f1 f2 hq => by
    have := k J f1 f2
    rw [if_pos ⟨hp, hw, hq.1, hq.2⟩] at this
    exact this
  refine brP_i (fun c => tsP_i hb8 (qI_i ?_)) (fun c0 => brP_i (fun c => qI_i ?_) (fun c1 => brP_i (fun c => tsP_i hb8 (qI_i ?_)) (fun c2 => brP_i (fun c => ?_) (fun c3 => brP_i (fun c => qI_i ?_) (fun c4 => qI_i ?_)))))
  · have c : q = 0 := c
    have := kk I FrC.rf h (by rw [c]; decide)
    rw [if_pos c] at this
    exact this
  · have c : q = 1 := c
    have := kk I FrC.rf h (by rw [c]; decide)
    rw [if_neg (show ¬ q = 0 from c0), if_pos c] at this
    exact this
  · have c : q = 2 := c
    have := kk I FrC.rf h (by rw [c]; decide)
    rw [if_neg (show ¬ q = 0 from c0), if_neg (show ¬ q = 1 from c1), if_pos c] at this
    exact this
  · have c : q = 3 := c
    have hs : CI (d + 99) 238 [vI (z32 (pn : Int)), vI (z32 (wn : Int))] (mm I D) (fun y I2 => y = z32 ((54 + f : Nat) : Int) ∧ I2 = I) := s_M_projectionSlot _ _ (qI_i ⟨by rw [mul2]; show z32 ((54 : Nat) : Int) + _ + _ = _; rw [addn, addn]; congr 2; omega, rfl⟩)
    rw [CI_iff hs]
    have clr : ∀ (g i : Nat) (J : IM), i + g = 9 → (∀ q k, q ≠ 143 → J q k = I q k) → (∀ j, j < i → J 143 j = 0) → (∀ G : IM, (∀ q k, q ≠ 143 → G q k = I q k) → (∀ j, j < 9 → G 143 j = 0) → Wp GG (d + 99) 247 23 [vR (some 106), vI (z32 (f : Int)), vI (z32 ((54 + f : Nat) : Int)), vI 1] [] (mm G D) (qI (mm I D) (fun x2 I2 => brP (x2 = 0) (qI (mm I D) K (some (vI 0)) (mm I2 D)) (qI (mm I D) K (some (vI 1)) (mm I2 D))))) → Wp GG (d + 99) 247 2 [vR (some 106), vI (z32 (f : Int)), vI (z32 ((54 + f : Nat) : Int)), vI (z32 (i : Int))] [] (mm J D) (qI (mm I D) (fun x2 I2 => brP (x2 = 0) (qI (mm I D) K (some (vI 0)) (mm I2 D)) (qI (mm I D) K (some (vI 1)) (mm I2 D)))) := by
      intro g
      induction g with
      | zero =>
        intro i J hi a b kx
        obtain rfl : i = 9 := by omega
        exact s_M_isTrue_2 _ _ _ ((brP_t (by decide)).mpr (kx J a b))
      | succ g ih =>
        intro i J hi a b kx
        refine s_M_isTrue_2 _ _ _ ((brP_f (by show ¬ z32 9 ≤ _; rw [z32_le] <;> omega)).mpr (tsP_i (inB_n (by omega) (by omega)) ?_))
        rw [ix_n (by omega), z32_s]
        refine ih (i + 1) _ (by omega) (fun q k c => by rw [up2_ne c]; exact a q k c) (fun j hj => ?_) kx
        by_cases e : j = i
        · rw [e, up2_eq]
        · rw [up2_nj e]
          exact b j (by omega)
    refine s_M_isTrue _ _ (clr 9 0 I rfl (fun _ _ _ => rfl) (fun j hj => absurd hj (Nat.not_lt_zero _)) (fun G gF g0 => ?_))
    have hEG : EVM G (zL (tS τ)) := h.E.mv (fun q j z => gF q j (by unfold ZE at z; omega))
    have hCG : CSM G (zC (tS τ)) := h.C.mv (fun q j z => gF q j (by unfold ZC at z; omega))
    have sG : SPJ G f (newJ x) := (show SPJ I f (newJ x) from hX.s).mv (fun q _ _ => gF _ _ (by omega)) (fun t _ _ => gF _ _ (by omega)) (gF _ _ (by omega))
    refine truV_loop (d := d + 94) (I0 := G) hEG hCG wf.1 hf8 ((gF _ _ (by omega)).trans hX.1.2.2.2.2) hjl (jP x) 0 G (newJ x) (Nat.zero_add _) HFB.rf sG (fun j hj => by
      show G 143 (0 + j) = 0
      rw [Nat.zero_add]
      exact g0 j hj) (fun I2 f2 r2 => ?_)
    have rL : RWG I2 141 142 (9 * f) (jR x) := fun j hj => by
      have := hX.r j hj
      rw [f2 141 _ (by omega), f2 142 _ (by omega), gF 141 _ (by omega), gF 142 _ (by omega)]
      exact this
    refine same_loopM (d := d + 98) hf8 rL r2 9 0 rfl ⟨_, _, rfl, rfl, ?_⟩
    have fS : SFr I I2 := fun q j e => (f2 q j (fun z => e (by unfold Sc; omega))).trans (gF q j (fun z => e (by unfold Sc; omega)))
    have := kk I2 fS.c (h.sf fS) (by rw [c]; decide)
    rw [if_neg (show ¬ q = 0 from c0), if_neg (show ¬ q = 1 from c1), if_neg (show ¬ q = 2 from c2), if_pos c] at this
    refine brP_i (fun z => qI_i ?_) (fun z => qI_i ?_)
    · rw [if_pos z] at this
      exact this
    · rw [if_neg z] at this
      exact this
  · have c : q = 4 := c
    have := kk I FrC.rf h (by rw [c]; decide)
    rw [if_neg (show ¬ q = 0 from c0), if_neg (show ¬ q = 1 from c1), if_neg (show ¬ q = 2 from c2), if_neg (show ¬ q = 3 from c3)] at this
    exact this
  · have k := k I FrC.rf h
    rw [if_neg (fun e => ?_)] at k
    · exact k
    · obtain ⟨m, hm, hm4⟩ := rng (m := 4) (by omega) e.2.2
      rcases (by omega : m = 0 ∨ m = 1 ∨ m = 2 ∨ m = 3 ∨ m = 4) with rfl | rfl | rfl | rfl | rfl
      · exact c0 hm
      · exact c1 hm
      · exact c2 hm
      · exact c3 hm
      · exact c4 hm
theorem q_row {K : Int32 → IM → Prop} (h : RM τ I) (p w q : Int32) (k : ∀ I2, FrC I I2 → RM τ I2 → K (S_row τ p w q) I2) : CI (d + 100) 248 [vR (some 106), vI p, vI w, vI q] (mm I D) K := by
  have k := k I FrC.rf h
  unfold S_row at k
  refine s_M_row _ _ _ ?_
  rw [e_isOne h]
  refine br0 (fun hc => ?_) (fun hc => qI_i ?_)
  rotate_left
  · by_cases c : (0 ≤ p ∧ p ≤ 3) ∧ (0 ≤ w ∧ w ≤ 1) ∧ 0 ≤ q ∧ q ≤ 8
    · rw [if_pos c] at k
      have hz : zP (tS τ) (aN w) (aN p) = none := Classical.not_not.mp (fun e => hc ⟨c.1, c.2.1, e⟩)
      rw [hz] at k
      exact k
    · rw [if_neg c] at k
      exact k
  obtain ⟨hp, hw, hz0⟩ := hc
  rw [e_in]
  refine br1 (fun hq => ?_) (fun hq => qI_i ?_)
  rotate_left
  · rw [if_neg (fun c => hq c.2.2)] at k
    exact k
  rw [if_pos ⟨hp, hw, hq⟩] at k
  obtain ⟨pn, rfl, hpn⟩ := rng (m := 3) (by omega) hp
  obtain ⟨wn, rfl, hwn⟩ := rng (m := 1) (by omega) hw
  obtain ⟨qn, rfl, hqn⟩ := rng (m := 8) (by omega) hq
  rw [aN_z (by omega), aN_z (by omega), aN_z (by omega)] at k
  rw [aN_z (by omega), aN_z (by omega)] at hz0
  obtain ⟨x, hz⟩ := Option.ne_none_iff_exists'.mp hz0
  have hP := h.P.1 wn pn (by omega) (by omega)
  rw [hz] at hP
  rw [hz] at k
  dsimp only at k
  have a := hP.2.r qn (by omega)
  rw [mul2, addn, mul9, addn]
  have h72 : inB (z32 ((9 * (2 * pn + wn) + qn : Nat) : Int)) 72 := inB_n (by omega) (by omega)
  refine tsP_i h72 ?_
  rw [ix_n (by omega)]
  cases hc : jR x qn with
  | none =>
    rw [hc] at a k
    have a : I 141 (9 * (2 * pn + wn) + qn) = 0 := a
    rw [a]
    exact (brP_t (by decide)).mpr (qI_i k)
  | some v =>
    rw [hc] at a k
    rw [a.1, a.2]
    exact (brP_f (fun c => c rfl)).mpr (tsP_i h72 (qI_i k))
end
