/-! The model's swap; its watch. -/
section
variable {d : Nat} {I : IM} {D : DY} {τ : ST}
theorem q_swap {K : Int32 → IM → Prop} (h : RM τ I) (p : Int32) (k : ∀ I2, FrC I I2 → RM (S_swap τ p).1 I2 → K (S_swap τ p).2 I2) : CI (d + 100) 244 [vR (some 106), vI p] (mm I D) K := by
  unfold S_swap at k
  refine s_M_swap _ ?_
  rw [e_mproj]
  refine br1 (fun hp => ?_) (fun hp => qI_i ?_)
  rotate_left
  · rw [if_neg hp] at k
    exact k I FrC.rf h
  rw [if_pos hp] at k
  obtain ⟨pn, rfl, hpn⟩ := rng (m := 3) (by omega) hp
  rw [aN_z (by omega)] at k
  have hP1 := h.P.1 1 pn (by omega) (by omega)
  have hP0 := h.P.1 0 pn (by omega) (by omega)
  have hb0 : inB (z32 ((2 * pn : Nat) : Int)) 8 := inB_n (by omega) (by omega)
  have hb1 : inB (z32 ((2 * pn + 1 : Nat) : Int)) 8 := inB_n (by omega) (by omega)
  rw [mul2, z32_s]
  refine tsP_i hb1 ?_
  rw [ix_n (n := 2 * pn + 1) (by omega)]
  cases hz1 : zP (tS τ) 1 pn with
  | none =>
    rw [hz1] at hP1 k
    have hP1 : I 135 (2 * pn + 1) = 0 := hP1
    exact (brP_t (by rw [hP1])).mpr (qI_i (k I FrC.rf h))
  | some y =>
    cases hz0 : zP (tS τ) 0 pn with
    | none => exact absurd (h.P.2 pn (by omega) hz0) (by rw [hz1]; simp)
    | some x =>
      rw [hz1] at hP1 k
      rw [hz0] at hP0 k
      rw [Nat.add_zero] at hP0
      dsimp only at k
      obtain ⟨p1, hY⟩ := hP1
      obtain ⟨p0, hX⟩ := hP0
      have hyp := hY.2.2.2.2.1
      have hxp := hX.2.2.2.2.1
      refine (brP_f (by rw [p1]; decide)).mpr (tsP_i hb1 (tsP_i hb0 ?_))
      rw [ix_n (n := 2 * pn) (by omega), hX.1.2.2.2.2, hY.1.2.2.2.2]
      refine brP_i (fun c => ?_) (fun c => qI_i ?_)
      rotate_left
      · rw [z32_le (by omega) (by omega) (by omega) (by omega)] at c
        rw [if_neg (by omega)] at k
        exact k I FrC.rf h
      rw [z32_le (by omega) (by omega) (by omega) (by omega)] at c
      rw [if_pos (by omega)] at k
      have k : ∀ J, FrC I J → RM (tT τ, setPJ (setPJ (tS τ) 1 pn none) 0 pn (some y), tI τ) J → K (z32 (jP y : Int)) J := k
      obtain ⟨⟨y1, y2, y3, y4, y5⟩, yr, yf, yy, yp, yc⟩ := id hY
      refine tsP_i hb1 (tsP_i hb0 (tsP_i hb1 (tsP_i hb0 (tsP_i hb1 (tsP_i hb0 (tsP_i hb1 (tsP_i hb0 ?_)))))))
      obtain ⟨f, hf⟩ : ∃ f, f = 2 * pn := ⟨_, rfl⟩
      rw [← hf]
      rw [← hf] at y1 y2 y3 y4 y5 yr
      have hf8 : f + 1 < 8 := by omega
      have hs0 : ∀ J : IM, CI (d + 99) 238 [vI (z32 (pn : Int)), vI 0] (mm J D) (fun y I2 => y = z32 ((54 + f : Nat) : Int) ∧ I2 = J) := fun J => s_M_projectionSlot _ _ (qI_i ⟨by rw [mul2]; show z32 ((54 : Nat) : Int) + _ + z32 ((0 : Nat) : Int) = _; rw [addn, addn]; congr 2; omega, rfl⟩)
      have hs1 : ∀ J : IM, CI (d + 99) 238 [vI (z32 (pn : Int)), vI 1] (mm J D) (fun y I2 => y = z32 ((54 + (f + 1) : Nat) : Int) ∧ I2 = J) := fun J => s_M_projectionSlot _ _ (qI_i ⟨by rw [mul2]; show z32 ((54 : Nat) : Int) + _ + z32 ((1 : Nat) : Int) = _; rw [addn, addn]; congr 2; omega, rfl⟩)
      rw [CI_iff (hs1 _), CI_iff (hs0 _)]
      generalize hJ : up2 (up2 (up2 (up2 I 136 f (I 136 (f + 1))) 137 f (I 137 (f + 1))) 138 f (I 138 (f + 1))) 139 f (I 139 (f + 1)) = J
      have fJ : ∀ q k, ¬ (136 ≤ q ∧ q ≤ 139 ∧ k = f) → J q k = I q k := fun q j h => by rw [← hJ, up2_if, if_neg (by omega), up2_if, if_neg (by omega), up2_if, if_neg (by omega), up2_if, if_neg (by omega)]
      have eJ : J 136 f = I 136 (f + 1) ∧ J 137 f = I 137 (f + 1) ∧ J 138 f = I 138 (f + 1) ∧ J 139 f = I 139 (f + 1) := by
        rw [← hJ]
        exact ⟨by rw [up2_ne (by omega), up2_ne (by omega), up2_ne (by omega), up2_eq], by rw [up2_ne (by omega), up2_ne (by omega), up2_eq], by rw [up2_ne (by omega), up2_eq], up2_eq⟩
      have tJ : TPm J (tT τ) := h.1.fr (fJ _ _ (by omega)) (fun k => fJ _ _ (by omega))
      refine c_mcopy (a := 54 + (f + 1)) tJ.2.2.2.2 (by omega) (by omega) (by omega) (fun I3 p3 => tsP_i (by rw [hf]; exact hb1) (tsP_i (by rw [hf]; exact hb0) ?_))
      have g3 := p3.1
      have t3 := p3.tp (by omega) tJ
      have e140 : I3 140 (f + 1) = z32 (jP y : Int) := by rw [g3 _ _ (by omega), fJ _ _ (by omega)]; exact y5
      rw [e140]
      -- rows
      have rows : ∀ (g j : Nat) (G : IM), j + g = 9 → (∀ q k, ¬ ((136 ≤ q ∧ q ≤ 140 ∧ k = f) ∨ ((q = 141 ∨ q = 142) ∧ 9 * f ≤ k ∧ k < 9 * f + 9) ∨ (q = 109 ∧ 245 * (54 + f) ≤ k ∧ k < 245 * (54 + f) + 245) ∨ (q = 110 ∧ k = 54 + f)) → G q k = I q k) →
          (∀ i, i < j → G 141 (9 * f + i) = I 141 (9 * f + 9 + i) ∧ G 142 (9 * f + i) = I 142 (9 * f + 9 + i)) → (∀ q k, q ≠ 141 → q ≠ 142 → G q k = up2 I3 140 f (z32 (jP y : Int)) q k) →
          Wp GG (d + 100) 244 130 [vR (some 106), vI (z32 (pn : Int)), vI (z32 (f : Int)), vI (z32 (j : Int))] [] (mm G D) (qI (mm I D) K) := by
        intro g
        induction g with
        | zero =>
          intro j G hj a b c
          obtain rfl : j = 9 := by omega
          refine s_M_swap_130 _ _ _ ((brP_t (by decide)).mpr ?_)
          rw [z32_s]
          refine tsP_i (inB_n (by omega) (by omega)) (tsP_i (inB_n (by omega) (by omega)) ⟨_, _, rfl, rfl, ?_⟩)
          rw [ix_n (n := f + 1) (by omega), ix_n (n := f) (by omega), c 140 f (by omega) (by omega), up2_eq]
          have cv : ∀ q, 136 ≤ q → q ≤ 139 → G q f = J q f := fun q _ _ => by rw [c q f (by omega) (by omega), up2_ne (by omega), g3 _ _ (by omega)]
          -- in two steps: the one beside goes, the live one is set
          have F1 : LFr (2 * pn + 1) I (up2 I 135 (2 * pn + 1) 0) := fun q j e => by rw [up2_if, if_neg (by omega)]
          have R1 := h.2.2.1.pj (p := pn) (w := 1) (e := none) (by omega) (by omega) F1 up2_eq ⟨(fun c => by omega), fun _ _ => rfl⟩
          have F2 : LFr (2 * pn + 0) (up2 I 135 (2 * pn + 1) 0) (up2 G 135 (f + 1) 0) := fun q j e => by
            rw [Nat.add_zero, ← hf] at e
            rw [← hf]
            by_cases z : q = 135 ∧ j = f + 1
            · rw [z.1, z.2, up2_eq, up2_eq]
            · rw [up2_if, if_neg z, up2_if, if_neg z]
              exact a q j (by omega)
          have P2 : PJM (up2 G 135 (f + 1) 0) (2 * pn + 0) (some y) := by
            show PJM (up2 G 135 (f + 1) 0) (2 * pn) (some y)
            rw [← hf]
            have u : ∀ q k, q ≠ 135 → up2 G 135 (f + 1) 0 q k = G q k := fun q k z => up2_ne z
            refine ⟨?_, ⟨?_, ?_, ?_, ?_, ?_⟩, fun k hk => ?_, yf, yy, yp, yc⟩
            · rw [up2_nj (by omega), a 135 f (by omega), hf]
              exact p0
            · rw [u _ _ (by omega), cv _ (by omega) (by omega), eJ.1]; exact y1
            · rw [u _ _ (by omega), cv _ (by omega) (by omega), eJ.2.1]; exact y2
            · rw [u _ _ (by omega), cv _ (by omega) (by omega), eJ.2.2.1]; exact y3
            · rw [u 139 _ (by omega), cv 139 (by omega) (by omega), eJ.2.2.2]
              rcases y4 with y4 | y4
              · exact Or.inl y4
              · refine Or.inr ⟨y4.1, (p3.fm (y4.2.mv (fun t _ _ => fJ _ _ (by omega)) (fJ _ _ (by omega)))).mv (fun t _ _ => ?_) ?_⟩
                · rw [u _ _ (by omega), c _ _ (by omega) (by omega), up2_ne (by omega)]
                · rw [u _ _ (by omega), c _ _ (by omega) (by omega), up2_ne (by omega)]
            · rw [u _ _ (by omega), c _ _ (by omega) (by omega), up2_eq]
            · obtain ⟨b1, b2⟩ := b k hk
              have yk := yr k hk
              rw [show 9 * (f + 1) + k = 9 * f + 9 + k by omega] at yk
              cases hc : jR y k with
              | none =>
                rw [hc] at yk
                show up2 G 135 (f + 1) 0 141 (9 * f + k) = 0
                rw [u _ _ (by omega), b1]
                exact yk
              | some v =>
                rw [hc] at yk
                exact ⟨by rw [u _ _ (by omega), b1]; exact yk.1, by rw [u _ _ (by omega), b2]; exact yk.2⟩
          have R2 := R1.pj (p := pn) (w := 0) (e := some y) (by omega) (by omega) F2 P2 ⟨(fun _ c => by cases c), (fun c => by omega)⟩
          have tG : TPm (up2 G 135 (f + 1) 0) (tT τ) := t3.fr (by rw [up2_ne (by omega), c _ _ (by omega) (by omega), up2_ne (by omega)]) (fun j => by
            intro q hq
            rw [up2_ne (by omega), c _ _ (by omega) (by omega), up2_ne (by omega)])
          refine k _ (fun q j e => by rw [up2_ne (by omega)]; exact a q j (by omega)) ⟨tG, (h.2.1.l F1).l F2, R2, (h.2.2.2.l F1 (by omega)).l F2 (by omega)⟩
        | succ g ih =>
          intro j G hj a b c
          refine s_M_swap_130 _ _ _ ((brP_f (by show ¬ z32 9 ≤ _; rw [z32_le] <;> omega)).mpr ?_)
          have e9 : (9 : Int32) * z32 (f : Int) + 9 = z32 ((9 * f + 9 : Nat) : Int) := by
            rw [mul9]
            exact addn (9 * f) 9
          rw [e9, mul9, addn, addn]
          have hA : inB (z32 ((9 * f + 9 + j : Nat) : Int)) 72 := inB_n (by omega) (by omega)
          have hB : inB (z32 ((9 * f + j : Nat) : Int)) 72 := inB_n (by omega) (by omega)
          refine tsP_i hA (tsP_i hB (tsP_i hA (tsP_i hB ?_)))
          rw [ix_n (by omega), ix_n (by omega), z32_s, a 141 (9 * f + 9 + j) (by omega), a 142 (9 * f + 9 + j) (by omega)]
          refine ih (j + 1) _ (by omega) (fun q i e => ?_) (fun i hi => ?_) (fun q i e1 e2 => by rw [up2_ne (by omega), up2_ne (by omega)]; exact c q i e1 e2)
          · rw [up2_if, if_neg (by omega), up2_if, if_neg (by omega)]
            exact a q i e
          · by_cases z : i = j
            · rw [z, up2_ne (by omega), up2_eq, up2_eq]
              exact ⟨rfl, rfl⟩
            · obtain ⟨b1, b2⟩ := b i (by omega)
              rw [up2_ne (by omega), up2_nj (by omega), up2_nj (by omega), up2_ne (by omega)]
              exact ⟨b1, b2⟩
      refine rows 9 0 _ rfl (fun q j e => ?_) (fun i hi => absurd hi (Nat.not_lt_zero _)) (fun _ _ _ _ => rfl)
      rw [up2_if, if_neg (by omega), g3 q j (by omega), fJ q j (by omega)]
/-! watching -/
/-- the states of a stream, version by version -/
theorem wst_0 {b : Prop} [Decidable b] {v : Int32} {w : W5} : wst b v w = if b then ((if w.1 = -2 then v else w.1), v, w.2.2.1 + 1, w.2.2.2.1 + 1, (if w.2.2.2.2 < w.2.2.2.1 + 1 then w.2.2.2.1 + 1 else w.2.2.2.2)) else (w.1, w.2.1, w.2.2.1, 0, w.2.2.2.2) := rfl
/-- versions from v on: what is watched then -/
def wv (C : CF) (L : List EV) (s : Nat) (c : Tx) : Nat → Nat → W5 → W5
  | 0, _, w => w
  | n + 1, v, w => wv C L s c n (v + 1) (wst (valV (env5 (foV C s v L).1 (foV C s v L).2.1 (foV C s v L).2.2.1 (foV C s v L).2.2.2 (z32 (v : Int))) c ≠ 0) (z32 (v : Int)) w)
theorem wat_wv {C : CF} {L : List EV} {s : Nat} {c : Tx} (hv : VOL L) : ∀ (l : List EV) (n : Nat) (w : W5), L.drop n = l → n ≤ L.length → wat C s c l (stF C (L.take n) s) w = wv C L s c (vrS L s - vrS (L.take n) s) (vrS (L.take n) s + 1) w := by
  intro l
  induction l with
  | nil =>
    intro n w hd hn
    have hln : L.length ≤ n := List.drop_eq_nil_iff.mp hd
    have e : L.take n = L := List.take_of_length_le hln
    rw [e, Nat.sub_self]
    rfl
  | cons e l ih =>
    intro n w hd hn
    obtain ⟨hj, hx, hd2⟩ := get_drop hd
    have et := take_s hx
    have est : stF C (L.take (n + 1)) s = stE C s (stF C (L.take n) s) e := by
      rw [et]
      unfold stF
      rw [List.foldl_append]
      rfl
    have evr : vrS (L.take (n + 1)) s = vrS (L.take n) s + if eS e = s then 1 else 0 := by
      rw [et]
      unfold vrS
      rw [List.filter_append, List.length_append]
      congr 1
      by_cases q : eS e = s
      · rw [if_pos q, List.filter_cons, if_pos (by rw [q]; simp)]
        rfl
      · rw [if_neg q, List.filter_cons, if_neg (by simp [q])]
        rfl
    have hle := vrS_tk L (n + 1) s
    have ew : wat C s c (e :: l) (stF C (L.take n) s) w = if eS e = s then wat C s c l (chg (eK e) (rdE C e).1 (stF C (L.take n) s)) (wst (valV (env5 (chg (eK e) (rdE C e).1 (stF C (L.take n) s)).1 (chg (eK e) (rdE C e).1 (stF C (L.take n) s)).2.1 (chg (eK e) (rdE C e).1 (stF C (L.take n) s)).2.2.1 (chg (eK e) (rdE C e).1 (stF C (L.take n) s)).2.2.2 (z32 (eV e : Int))) c ≠ 0) (z32 (eV e : Int)) w) else wat C s c l (stF C (L.take n) s) w := rfl
    rw [ew]
    by_cases q : eS e = s
    · rw [if_pos q] at evr ⊢
      have eV1 : eV e = vrS (L.take n) s + 1 := by
        have := hv n e hx
        rw [q, evr] at this
        exact this
      have e1 : stE C s (stF C (L.take n) s) e = chg (eK e) (rdE C e).1 (stF C (L.take n) s) := if_pos q
      rw [e1] at est
      have e2 : foV C s (vrS (L.take n) s + 1) L = chg (eK e) (rdE C e).1 (stF C (L.take n) s) := by
        rw [← est, ← evr]
        exact foV_cut hv hj
      rw [← est, ih (n + 1) _ hd2 hj]
      have e3 : vrS L s - vrS (L.take n) s = (vrS L s - vrS (L.take (n + 1)) s) + 1 := by omega
      rw [e3, evr, eV1]
      show _ = wv C L s c _ (vrS (L.take n) s + 1 + 1) (wst (valV (env5 (foV C s (vrS (L.take n) s + 1) L).1 (foV C s (vrS (L.take n) s + 1) L).2.1 (foV C s (vrS (L.take n) s + 1) L).2.2.1 (foV C s (vrS (L.take n) s + 1) L).2.2.2 (z32 ((vrS (L.take n) s + 1 : Nat) : Int))) c ≠ 0) (z32 ((vrS (L.take n) s + 1 : Nat) : Int)) w)
      rw [e2, est]
    · rw [if_neg q] at evr ⊢
      have e1 : stE C s (stF C (L.take n) s) e = stF C (L.take n) s := if_neg q
      rw [e1] at est
      rw [← est, ih (n + 1) _ hd2 hj, evr, Nat.add_zero]
theorem watS_wv {C : CF} {L : List EV} {s : Nat} {c : Tx} (hv : VOL L) : watS C L s c = wv C L s c (vrS L s + 1) 0 (-2, -2, 0, 0, 0) := by
  have h := wat_wv (C := C) (s := s) (c := c) hv L 0 (wst (valV (env5 0 0 0 0 0) c ≠ 0) 0 (-2, -2, 0, 0, 0)) rfl (Nat.zero_le _)
  have e0 : foV C s 0 L = (0, 0, 0, 0) := by
    have := foV_cut (C := C) (s := s) hv (Nat.zero_le L.length)
    exact this
  show wat C s c L (0, 0, 0, 0) _ = wv C L s c (vrS L s) 1 (wst (valV (env5 (foV C s 0 L).1 (foV C s 0 L).2.1 (foV C s 0 L).2.2.1 (foV C s 0 L).2.2.2 (z32 ((0 : Nat) : Int))) c ≠ 0) (z32 ((0 : Nat) : Int)) (-2, -2, 0, 0, 0))
  rw [e0]
  exact h
def WTr (I I2 : IM) : Prop := ∀ q k, ¬ (q = 111 ∨ q = 112 ∨ (q = 106 ∧ (k = 25 ∨ k = 26)) ∨ q = 121) → I2 q k = I q k
theorem WTr.tr {I I2 I3 : IM} (h : WTr I I2) (h2 : WTr I2 I3) : WTr I I3 := fun q k e => (h2 q k e).trans (h q k e)
theorem FoF.w {I I2 : IM} (h : FoF I I2) : WTr I I2 := fun q k e => h q k (by omega)
theorem WTr.s {I I2 : IM} (h : WTr I I2) : SFr I I2 := fun q k e => h q k (fun c => e (by unfold Sc; omega))
theorem mwatch_loop {K : Int32 → IM → Prop} {C : CF} {L : List EV} {I0 : IM} {s wn : Nat} {c : Tx} (hE : EVM I0 L) (hC : CSM I0 C) (ho : ∀ e ∈ L, okEv C e) (hv : VOL L) (hs : s < 8) (hwn : wn ≤ 3) (hc : cWF 5 c) (hF : FMc I0 72 (encV c)) :
    ∀ (g v : Nat) (J : IM) (w : W5) (u : PV), v + g = vrS L s + 1 → WTr I0 J → (∀ I2, WTr I0 I2 → K (wsel wn (wv C L s c g v w)) I2) →
    Wp GG (d + 4) 260 63 [vR (some 106), vI (z32 (s : Int)), vI (z32 (wn : Int)), vI w.1, vI w.2.1, vI w.2.2.1, vI w.2.2.2.1, vI w.2.2.2.2, vI (z32 (v : Int)), u] [] (mm J D) (qI (mm I0 D) K) := by
  have h240 := hE.2.1
  have hvr := vrS_le (L := L) (s := s)
  have hb8 : inB (z32 (s : Int)) 8 := inB_n hs (by omega)
  intro g
  induction g with
  | zero =>
    intro v J w u hg f k
    refine s_M_watch_63 _ _ _ _ _ _ _ _ _ (tsP_i hb8 ?_)
    have e120 : J 120 s = z32 (vrS L s : Int) := (f _ _ (by omega)).trans (hE.2.2.2 s hs)
    rw [ix_n (by omega), e120]
    have k : K (wsel wn w) J := k J f
    unfold wsel at k
    refine (brP_t (by rw [z32_lt] <;> omega)).mpr ?_
    rcases (by omega : wn = 0 ∨ wn = 1 ∨ wn = 2 ∨ wn = 3) with rfl | rfl | rfl | rfl
    · exact (brP_f (by decide)).mpr ⟨_, _, rfl, rfl, k⟩
    · exact (brP_t (by decide)).mpr ((brP_f (by decide)).mpr ⟨_, _, rfl, rfl, k⟩)
    · exact (brP_t (by decide)).mpr ((brP_t (by decide)).mpr ((brP_f (by decide)).mpr ⟨_, _, rfl, rfl, k⟩))
    · exact (brP_t (by decide)).mpr ((brP_t (by decide)).mpr ((brP_t (by decide)).mpr ⟨_, _, rfl, rfl, k⟩))
  | succ g ih =>
    intro v J w u hg f k
    refine s_M_watch_63 _ _ _ _ _ _ _ _ _ (tsP_i hb8 ?_)
    have e120 : J 120 s = z32 (vrS L s : Int) := (f _ _ (by omega)).trans (hE.2.2.2 s hs)
    have e14 : J 106 14 = z32 (L.length : Int) := (f _ _ (by omega)).trans hE.1
    rw [ix_n (by omega), e120, e14]
    refine (brP_f (by rw [z32_lt] <;> omega)).mpr ?_
    refine c_mfold (d := d) (v := v) (hE.st f.s.t) (hC.st f.s.t) ho (hv.b h240) hs (by omega) (Nat.le_refl _) (fun I1 f1 x1 => ?_)
    rw [List.take_length] at x1
    have fI1 := f.tr f1.w
    -- what is given
    have give : ∀ (g2 j : Nat) (G : IM), j + g2 = 4 → WTr I0 G → Z4 G (foV C s v L) → (∀ i, i < j → G 112 i = s4 i (foV C s v L)) → (∀ G2, WTr I0 G2 → (∀ i, i < 4 → G2 112 i = s4 i (foV C s v L)) → Wp GG (d + 4) 260 88 [vR (some 106), vI (z32 (s : Int)), vI (z32 (wn : Int)), vI w.1, vI w.2.1, vI w.2.2.1, vI w.2.2.2.1, vI w.2.2.2.2, vI (z32 (v : Int)), vI 4] [] (mm G2 D) (qI (mm I0 D) K)) →
        Wp GG (d + 4) 260 88 [vR (some 106), vI (z32 (s : Int)), vI (z32 (wn : Int)), vI w.1, vI w.2.1, vI w.2.2.1, vI w.2.2.2.1, vI w.2.2.2.2, vI (z32 (v : Int)), vI (z32 (j : Int))] [] (mm G D) (qI (mm I0 D) K) := by
      intro g2
      induction g2 with
      | zero =>
        intro j G hj fG zG aG kG
        obtain rfl : j = 4 := by omega
        exact kG G fG aG
      | succ g2 ih2 =>
        intro j G hj fG zG aG kG
        refine s_M_watch_88 _ _ _ _ _ _ _ _ _ ((brP_f (by show ¬ z32 4 ≤ _; rw [z32_le] <;> omega)).mpr (tsP_i (inB_n (by omega) (by omega)) (tsP_i (inB_n (by omega) (by omega)) ?_)))
        rw [ix_n (by omega), zG j (by omega), z32_s]
        refine ih2 (j + 1) _ (by omega) (fG.tr (fun q i e => up2_ne (by omega))) (fun i hi => by rw [up2_ne (by omega)]; exact zG i hi) (fun i hi => ?_) kG
        by_cases q : i = j
        · rw [q, up2_eq]
        · rw [up2_nj q]
          exact aG i (by omega)
    refine give 4 0 I1 rfl fI1 x1 (fun i hi => absurd hi (Nat.not_lt_zero _)) (fun G fG aG => ?_)
    refine s_M_watch_88 _ _ _ _ _ _ _ _ _ ((brP_t (by decide)).mpr ?_)
    have fG2 : WTr I0 (up2 G 112 4 (z32 (v : Int))) := fG.tr (fun q i e => up2_ne (by omega))
    have vG : ∀ q, q < 5 → up2 G 112 4 (z32 (v : Int)) 112 q = env5 (foV C s v L).1 (foV C s v L).2.1 (foV C s v L).2.2.1 (foV C s v L).2.2.2 (z32 (v : Int)) q := fun q hq => by
      rcases (by omega : q = 0 ∨ q = 1 ∨ q = 2 ∨ q = 3 ∨ q = 4) with rfl | rfl | rfl | rfl | rfl
      · rw [up2_nj (by omega), aG 0 (by omega)]; rfl
      · rw [up2_nj (by omega), aG 1 (by omega)]; rfl
      · rw [up2_nj (by omega), aG 2 (by omega)]; rfl
      · rw [up2_nj (by omega), aG 3 (by omega)]; rfl
      · rw [up2_eq]; rfl
    refine c_worked (d := d + 2) (sl := 72) (nv := 5) (env := env5 (foV C s v L).1 (foV C s v L).2.1 (foV C s v L).2.2.1 (foV C s v L).2.2.2 (z32 (v : Int))) (by omega) (by omega) vG hc (hF.mv (fun t _ _ => fG2 _ _ (by omega)) (fG2 _ _ (by omega))) (fun I2 f2 => ?_)
    have fI2 : WTr I0 I2 := fG2.tr (fun q i e => f2 q i (by omega))
    have k : ∀ I2, WTr I0 I2 → K (wsel wn (wv C L s c g (v + 1) (wst (valV (env5 (foV C s v L).1 (foV C s v L).2.1 (foV C s v L).2.2.1 (foV C s v L).2.2.2 (z32 (v : Int))) c ≠ 0) (z32 (v : Int)) w))) I2 := k
    rw [wst_0] at k
    refine brP_i (fun q => ?_) (fun q => ?_)
    · rw [if_pos q] at k
      refine brP_i (fun q2 => ?_) (fun q2 => ?_)
      · rw [if_neg q2] at k
        rw [e_max, z32_s]
        exact ih (v + 1) I2 (w.1, z32 (v : Int), w.2.2.1 + 1, w.2.2.2.1 + 1, (if w.2.2.2.2 < w.2.2.2.1 + 1 then w.2.2.2.1 + 1 else w.2.2.2.2)) _ (by omega) fI2 k
      · have q2 := Classical.not_not.mp q2
        rw [if_pos q2] at k
        rw [e_max, z32_s]
        exact ih (v + 1) I2 (z32 (v : Int), z32 (v : Int), w.2.2.1 + 1, w.2.2.2.1 + 1, (if w.2.2.2.2 < w.2.2.2.1 + 1 then w.2.2.2.1 + 1 else w.2.2.2.2)) _ (by omega) fI2 k
    · rw [if_neg q] at k
      rw [z32_s]
      exact ih (v + 1) I2 (w.1, w.2.1, w.2.2.1, 0, w.2.2.2.2) _ (by omega) fI2 k
theorem q_watch {K : Int32 → IM → Prop} (h : RM τ I) (wf : WF (tS τ)) (s w : Int32) (k : ∀ I2, FrC I I2 → RM (S_watch τ s w).1 I2 → K (S_watch τ s w).2 I2) : CI (d + 100) 260 [vR (some 106), vI s, vI w] (mm I D) K := by
  have h160 := h.1.2.1
  unfold S_watch at k
  refine s_M_watch _ _ ?_
  rw [e_mstream]
  refine br0 (fun hs => ?_) (fun hs => qI_i ?_)
  rotate_left
  · rw [if_neg (fun c => hs c.1)] at k
    exact k I FrC.rf h
  rw [e_in]
  refine br1 (fun hw => ?_) (fun hw => qI_i ?_)
  rotate_left
  · rw [if_neg (fun c => hw c.2)] at k
    exact k I FrC.rf h
  rw [if_pos ⟨hs, hw⟩] at k
  obtain ⟨sn, rfl, hsn⟩ := rng (m := 7) (by omega) hs
  obtain ⟨wn, rfl, hwn⟩ := rng (m := 3) (by omega) hw
  rw [aN_z (by omega), aN_z (by omega)] at k
  refine m_begin h.1 (fun I1 f1 M1 => ?_)
  refine m_formula (d := d + 33) (vs := okhV) (sl := 72) (Or.inr ⟨rfl, rfl⟩) (by omega) M1 (fun I2 f2 M2 c2 => ?_)
  rw [sq_inl] at M2 c2
  have fI : SFt I I2 := f1.s.t.tr (f2.t (by omega) (by omega))
  refine m_end_br (d := d + 98) M2 (fun c I3 h1 h2 h3 h4 => ?_) (fun f I3 h1 h3 h4 h5 h6 h7 => qI_i ?_)
  rotate_left
  · rw [h1] at k
    rw [h6]
    have fE := fI.tr h3.t
    exact k I3 fE.c (h.tp fE h4)
  rw [h1] at k
  have k : ∀ J, FrC I J → RM ([], tS τ, tI τ) J → K (wsel wn (watS (zC (tS τ)) (zL (tS τ)) sn c)) J := k
  have fE := fI.tr h3.t
  have hc : cWF 5 c := cP_wf (vs := okhV) (by decide) (by omega) h160 h2
  have hF : FMc I3 72 (encV c) := (c2 c [] h2).mv (fun t _ _ => h3 _ _ (by omega)) (h3 _ _ (by omega))
  have hR := h.tp fE h4
  have hvr := vrS_le (L := zL (tS τ)) (s := sn)
  refine mwatch_loop (d := d + 96) (I0 := I3) hR.E hR.C wf.1 wf.2.1 (s := sn) (wn := wn) (by omega) hwn hc hF (vrS (zL (tS τ)) sn + 1) 0 I3 (-2, -2, 0, 0, 0) vT (Nat.zero_add _) (fun _ _ _ => rfl) (fun I4 f4 => ?_)
  rw [← watS_wv wf.2.1]
  exact k I4 (fE.c.tr f4.s.c) (hR.sf f4.s)
end
