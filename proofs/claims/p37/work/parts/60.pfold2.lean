/-! The fold, event by event. -/
section
variable {d : Nat} {I : IM} {D : DY} {c : Nat} {τ : ST}
theorem RC.inA {I2 : IM} (h : RC τ I D) (hb : BNS D c) (hw : dW D c = 2) (hf : ∀ q j, ¬ inA c q → I2 q j = I q j) : RC τ I2 D := h.own (fun q j hq => hf q j (fun e => hq (by
  have h1 := hb.1
  obtain ⟨e1, e2⟩ := e
  refine ⟨by omega, ?_⟩
  by_cases z : q = c
  · rw [z]
    exact hw
  · obtain ⟨t, rfl⟩ : ∃ t, q = c + 1 + t := ⟨q - c - 1, by omega⟩
    exact (hb.2.2.2.2 t (by omega)).2.2.2)))
theorem FrM.inA {I2 : IM} (hb : BNS D c) (hf : ∀ q j, ¬ inA c q → I2 q j = I q j) : FrM I I2 := fun q k h1 h2 => hf q k (fun e => by have := hb.1; have := e.1; omega)
theorem BNS.row (h : BNS D c) {s : Nat} (hs : s < 8) {P : Nat → Prop} (k : P (c + 1 + s)) : onR False (pR (mm I D) c (ixN (z32 (s : Int)))) P := by
  rw [ix_n (by omega), (h.r hs).1]
  exact k
variable {s k n : Nat} {f : Nat → S4} {g : Nat → Nat} {x : S4} {a : Int32} {e : EV} {w6 : PV} {Q : Option PV → PM → Prop}
theorem f_157 (hb : BNS D c) (hw : dW D c = 2) (hc : clo (inA c) (mm I D)) (wf : WF (tS τ)) (hr : RC τ I D) (hl : (zL (tS τ)).length ≤ 240) (he : (zL (tS τ))[n]? = some e) (hv : BNV I c (updF f (eS e) x) g) (hg : g (eS e) + 1 = eV e)
    (h : ∀ I2, FrM I I2 → RC τ I2 D → BNV I2 c (updF f (eS e) (y5 k a x)) (updF g (eS e) (g (eS e) + 1)) → Wp GG (d + 101) 203 182 [vR (some 45), vR (some c), vI (z32 ((n + 1 : Nat) : Int)), vI (z32 (eS e : Int)), vI (z32 (k : Int)), vI a, w6] [] (mm I2 D) Q) :
    Wp GG (d + 101) 203 157 [vR (some 45), vR (some c), vI (z32 ((n + 1 : Nat) : Int)), vI (z32 (eS e : Int)), vI (z32 (k : Int)), vI a, w6] [vI (d2 k a), vI x.2.2.1, vI 2, vR (some (c + 1 + eS e))] (mm I D) Q := by
  have hs : eS e < 8 := (wf.1 e (List.mem_of_getElem? he)).1
  have e4 : (up2 I (c + 1 + eS e) 2 (x.2.2.1 + d2 k a)) (c + 1 + eS e) 4 + 1 = z32 ((g (eS e) + 1 : Nat) : Int) := by
    rw [up2_nj (by omega), (hv _ hs).2, z32_s]
  have v1 : BNV (up2 I (c + 1 + eS e) 2 (x.2.2.1 + d2 k a)) c (updF f (eS e) (y5 k a x)) g := by
    have := hv.up4 (w := 2) (v := x.2.2.1 + d2 k a) (x := y5 k a x) hs (by omega) rfl (fun j hj hj2 => by
      rw [updF_eq]
      obtain rfl | rfl | rfl : j = 0 ∨ j = 1 ∨ j = 3 := by omega
      all_goals rfl)
    rwa [updF_upd] at this
  have v2 := v1.upv (n := g (eS e) + 1) hs
  have f2 : ∀ q j, ¬ inA c q → up2 (up2 I (c + 1 + eS e) 2 (x.2.2.1 + d2 k a)) (c + 1 + eS e) 4 (z32 ((g (eS e) + 1 : Nat) : Int)) q j = I q j := fun q j hq => by
    have : q ≠ c + 1 + eS e := fun z => hq ⟨by omega, by omega⟩
    rw [up2_ne this, up2_ne this]
  refine s_L_isFolded_157 _ _ _ _ _ _ _ _ _ _ (hb.at (w := 2) hs (by omega) (hb.go hs (hb.at (w := 4) hs (by omega) (hb.row hs (hb.at (w := 4) hs (by omega) ?_)))))
  show CI (d + 100) 99 _ (mm (up2 (up2 I (c + 1 + eS e) 2 (x.2.2.1 + d2 k a)) (c + 1 + eS e) 4 ((up2 I (c + 1 + eS e) 2 (x.2.2.1 + d2 k a)) (c + 1 + eS e) 4 + 1)) D) _
  rw [e4]
  refine q_event (A := inA c) (hr.inA hb hw f2) wf hc _ _ (fun I3 f3 r3 a3 => ?_)
  have v3 := v2.fr a3
  refine hb.go hs (hb.at (w := 4) hs (by omega) (brP_i (fun q => absurd ?_ q) (fun _ => h I3 ((FrM.inA hb f2).tr f3) r3 v3)))
  have := fo_event (τ := τ) hl he 1 (by omega)
  rw [if_neg (by omega)] at this
  refine this.trans ?_
  rw [(v3 _ hs).2, updF_eq, hg]
  rfl
theorem f_182 (hb : BNS D c) (hc : clo (inA c) (mm I D)) (wf : WF (tS τ)) (hr : RC τ I D) (hl : (zL (tS τ)).length ≤ 240) (he : (zL (tS τ))[n]? = some e) (hv : BNV I c f g) (hg : g (eS e) = eV e)
    (h : ∀ I2, FrM I I2 → RC τ I2 D → BNV I2 c f g → Wp GG (d + 101) 203 229 [vR (some 45), vR (some c), vI (z32 ((n + 1 : Nat) : Int)), vI (z32 (eS e : Int)), vI (z32 (k : Int)), vI a, w6] [] (mm I2 D) Q) :
    Wp GG (d + 101) 203 182 [vR (some 45), vR (some c), vI (z32 ((n + 1 : Nat) : Int)), vI (z32 (eS e : Int)), vI (z32 (k : Int)), vI a, w6] [] (mm I D) Q := by
  have hs : eS e < 8 := (wf.1 e (List.mem_of_getElem? he)).1
  have e4 : ∀ {J : IM}, BNV J c f g → J (c + 1 + eS e) 4 = z32 (eV e : Int) := fun v => by rw [(v _ hs).2, hg]
  obtain ⟨t1, t2⟩ := fo_steps wf hl he
  refine s_L_isFolded_182 _ _ _ _ _ _ (hb.go hs (hb.at (w := 4) hs (by omega) ?_))
  rw [e4 hv]
  refine q_find (A := inA c) hr wf hc _ _ (fun I1 f1 r1 a1 => ?_)
  have v1 := hv.fr a1
  rw [fo_find wf hl he]
  refine brP_i (fun q => absurd rfl q) (fun _ => hb.go hs (hb.at (w := 4) hs (by omega) ?_))
  rw [e4 v1]
  refine q_steps (A := inA c) r1 (hc : clo (inA c) (mm I1 D)) _ _ (fun I2 f2 r2 a2 => ?_)
  have v2 := v1.fr a2
  refine brP_i (fun q => absurd q t1) (fun _ => hb.go hs (hb.at (w := 4) hs (by omega) ?_))
  rw [e4 v2]
  refine q_steps (A := inA c) r2 (hc : clo (inA c) (mm I2 D)) _ _ (fun I3 f3 r3 a3 => ?_)
  have v3 := v2.fr a3
  refine hb.go hs (hb.at (w := 4) hs (by omega) ?_)
  rw [e4 v3]
  exact brP_i (fun _ => h I3 ((f1.tr f2).tr f3) r3 v3) (fun q => absurd t2 q)
theorem f_232 (hb : BNS D c) (wf : WF (tS τ)) (hl : (zL (tS τ)).length ≤ 240) (he : (zL (tS τ))[n]? = some e) (hf : ∀ j, j < 4 → s4 j (f (eS e)) = s4 j (stF (zC (tS τ)) ((zL (tS τ)).take (n + 1)) (eS e))) (hg : g (eS e) = eV e) {I0 : IM} (hc : clo (inA c) (mm I0 D))
    (h : ∀ I2 w, FrM I0 I2 → RC τ I2 D → BNV I2 c f g → Wp GG (d + 101) 203 6 [vR (some 45), vR (some c), vI (z32 ((n + 1 + 1 : Nat) : Int)), vI (z32 (eS e : Int)), vI (z32 (k : Int)), vI a, w] [] (mm I2 D) Q) : ∀ (z m : Nat), m + z = 4 → ∀ I, FrM I0 I → RC τ I D → BNV I c f g →
    Wp GG (d + 101) 203 232 [vR (some 45), vR (some c), vI (z32 ((n + 1 : Nat) : Int)), vI (z32 (eS e : Int)), vI (z32 (k : Int)), vI a, vI (z32 (m : Int))] [] (mm I D) Q := by
  have hs : eS e < 8 := (wf.1 e (List.mem_of_getElem? he)).1
  intro z
  induction z with
  | zero =>
    intro m hm I f0 r v
    refine s_L_isFolded_232 _ _ _ _ _ _ (brP_i (fun _ => ?_) (fun q => absurd (show z32 4 ≤ z32 (m : Int) by rw [z32_le] <;> omega) q))
    rw [z32_s]
    exact h I _ f0 r v
  | succ z ih =>
    intro m hm I f0 r v
    refine s_L_isFolded_232 _ _ _ _ _ _ (brP_i (fun q => absurd q (show ¬ z32 4 ≤ z32 (m : Int) by rw [z32_le (by omega) (by omega) (by omega) (by omega)]; omega)) (fun _ => hb.go hs (hb.at (w := 4) hs (by omega) ?_)))
    rw [(v _ hs).2, hg]
    refine q_at (A := inA c) r wf (hc : clo (inA c) (mm I D)) _ _ _ (fun I2 f2 r2 a2 => ?_)
    have v2 := v.fr a2
    rw [fo_at wf hl he (by omega)]
    refine hb.go hs (hb.at (w := m) hs (by omega) (brP_i (fun _ => ?_) (fun q => absurd ?_ q)))
    · rw [z32_s]
      exact ih (m + 1) (by omega) I2 (f0.tr f2) r2 v2
    · rw [ix_n (by omega), (v2 _ hs).1 m (by omega)]
      exact (hf m (by omega)).symm
theorem f_15 (hb : BNS D c) (hw : dW D c = 2) (hc : clo (inA c) (mm I D)) (wf : WF (tS τ)) (hr : RC τ I D) (hl : (zL (tS τ)).length ≤ 240) (he : (zL (tS τ))[n]? = some e) (hv : BNV I c (stF (zC (tS τ)) ((zL (tS τ)).take n)) (vrS ((zL (tS τ)).take n)))
    (h : ∀ I2 w3 w4 w5 w6, FrM I I2 → RC τ I2 D → BNV I2 c (stF (zC (tS τ)) ((zL (tS τ)).take (n + 1))) (vrS ((zL (tS τ)).take (n + 1))) → Wp GG (d + 101) 203 6 [vR (some 45), vR (some c), vI (z32 ((n + 1 + 1 : Nat) : Int)), w3, w4, w5, w6] [] (mm I2 D) Q) {w3 w4 w5 : PV} :
    Wp GG (d + 101) 203 15 [vR (some 45), vR (some c), vI (z32 ((n + 1 : Nat) : Int)), w3, w4, w5, w6] [] (mm I D) Q := by
  obtain ⟨hs, hk, -⟩ := wf.1 e (List.mem_of_getElem? he)
  have E0 := fo_event (τ := τ) hl he 0 (by omega)
  have E2 := fo_event (τ := τ) hl he 2 (by omega)
  have E6 := fo_event (τ := τ) hl he 6 (by omega)
  rw [if_neg (by omega)] at E0 E2
  rw [if_pos (by omega), if_pos rfl] at E6
  have hg := (fo_v wf he).1
  refine s_L_isFolded_15 _ _ _ _ _ _ ?_
  refine q_event (A := inA c) hr wf hc _ _ (fun I1 f1 r1 a1 => ?_)
  rw [show S_event τ (z32 ((n + 1 : Nat) : Int)) 0 = z32 (eS e : Int) from E0]
  refine q_event (A := inA c) r1 wf (hc : clo (inA c) (mm I1 D)) _ _ (fun I2 f2 r2 a2 => ?_)
  rw [show S_event τ (z32 ((n + 1 : Nat) : Int)) 2 = z32 (eK e : Int) from E2]
  refine q_event (A := inA c) r2 wf (hc : clo (inA c) (mm I2 D)) _ _ (fun I3 f3 r3 a3 => ?_)
  rw [show S_event τ (z32 ((n + 1 : Nat) : Int)) 6 = (rdE (zC (tS τ)) e).1 from E6]
  have v3 := ((hv.fr a1).fr a2).fr a3
  have F3 := (f1.tr f2).tr f3
  rw [← updF_id (f := stF (zC (tS τ)) ((zL (tS τ)).take n)) (s := eS e)] at v3
  -- the rest, from where the first write is done
  have rest : ∀ I4, (∀ q j, ¬ inA c q → I4 q j = I3 q j) → BNV I4 c (updF (stF (zC (tS τ)) ((zL (tS τ)).take n)) (eS e) (y1 (eK e) (stF (zC (tS τ)) ((zL (tS τ)).take n) (eS e)))) (vrS ((zL (tS τ)).take n)) →
      Wp GG (d + 101) 203 50 [vR (some 45), vR (some c), vI (z32 ((n + 1 : Nat) : Int)), vI (z32 (eS e : Int)), vI (z32 (eK e : Int)), vI (rdE (zC (tS τ)) e).1, w6] [] (mm I4 D) Q := fun I4 f4 v4 => by
    refine f_50 (d := d + 100) hb hs hk v4 (fun I5 f5 v5 => f_68 (d := d + 100) hb hs hk v5 (fun I6 f6 v6 => f_81 (d := d + 100) hb hs hk v6 (f_125 (d := d + 100) hb hs hk v6 (fun I7 f7 v7 => ?_))))
    have ff : ∀ q j, ¬ inA c q → I7 q j = I3 q j := fun q j hq => ((f7 q j hq).trans (f6 q j hq)).trans ((f5 q j hq).trans (f4 q j hq))
    refine f_157 (d := d) (x := y4 (eK e) (rdE (zC (tS τ)) e).1 (y3 (eK e) (y2 (eK e) (rdE (zC (tS τ)) e).1 (y1 (eK e) (stF (zC (tS τ)) ((zL (tS τ)).take n) (eS e)))))) hb hw (hc : clo (inA c) (mm I7 D)) wf (r3.inA hb hw ff) hl he v7 hg.symm (fun I8 f8 r8 v8 => ?_)
    rw [y_chg hk, ← stF_snoc, ← take_s he] at v8
    have eg : updF (vrS ((zL (tS τ)).take n)) (eS e) (vrS ((zL (tS τ)).take n) (eS e) + 1) = vrS ((zL (tS τ)).take (n + 1)) := by
      funext t
      rw [take_s he, vrS_snoc]
      unfold updF
      by_cases z : t = eS e
      · rw [if_pos z, if_pos z.symm, z]
      · rw [if_neg z, if_neg (fun q => z q.symm)]
        rfl
    rw [eg] at v8
    have hg8 : vrS ((zL (tS τ)).take (n + 1)) (eS e) = eV e := by rw [vrS_at he, hg]
    refine f_182 (d := d) hb (hc : clo (inA c) (mm I8 D)) wf r8 hl he v8 hg8 (fun I9 f9 r9 v9 => ?_)
    refine s_L_isFolded_229 _ _ _ _ _ _ ?_
    exact f_232 (d := d) hb wf hl he (fun j _ => rfl) hg8 (I0 := I9) (hc : clo (inA c) (mm I9 D)) (fun Ia w fa ra va => h Ia _ _ _ _ ((F3.tr (FrM.inA hb ff)).tr ((f8.tr f9).tr fa)) ra va) 4 0 (by omega) I9 FrM.rf r9 v9
  refine brP_i (fun q => ?_) (fun q => ?_)
  · rw [keL (x := 0) 0 hk (by omega) rfl] at q
    refine rest I3 (fun _ _ _ => rfl) ?_
    unfold y1
    rw [if_neg q]
    exact v3
  · rw [keL (x := 0) 0 hk (by omega) rfl] at q
    have q : eK e = 0 := Classical.not_not.mp q
    refine hb.go hs (hb.at (w := 0) hs (by omega) (rest _ (fun q j hq => up2_ne (fun z => hq ⟨by omega, by omega⟩)) ?_))
    have := v3.up4 (w := 0) (v := 1) (x := y1 (eK e) (stF (zC (tS τ)) ((zL (tS τ)).take n) (eS e))) hs (by omega) (by unfold y1; rw [if_pos q]; rfl) (fun j hj hj2 => by
      rw [updF_eq]
      unfold y1
      rw [if_pos q]
      obtain rfl | rfl | rfl : j = 1 ∨ j = 2 ∨ j = 3 := by omega
      all_goals rfl)
    rwa [updF_upd] at this
theorem f_6 (hb : BNS D c) (hw : dW D c = 2) (wf : WF (tS τ)) (hl : (zL (tS τ)).length ≤ 240) {I0 : IM} {K : Int32 → IM → DY → Prop} (hc : clo (inA c) (mm I0 D)) (hK : ∀ I2, FrM I0 I2 → RC τ I2 D → K 1 I2 D) : ∀ (z m : Nat), m + z = (zL (tS τ)).length → ∀ I w3 w4 w5 w6, FrM I0 I → RC τ I D → BNV I c (stF (zC (tS τ)) ((zL (tS τ)).take m)) (vrS ((zL (tS τ)).take m)) →
    Wp GG (d + 102) 203 6 [vR (some 45), vR (some c), vI (z32 ((m + 1 : Nat) : Int)), w3, w4, w5, w6] [] (mm I D) (aI K) := by
  intro z
  induction z with
  | zero =>
    intro m hm I w3 w4 w5 w6 f r v
    refine s_L_isFolded_6 _ _ _ _ _ _ (q_count0 (d := d + 1) r (brP_i (fun _ => ?_) (fun q => absurd ?_ q)))
    · have em : (zL (tS τ)).take m = zL (tS τ) := List.take_of_length_le (by omega)
      rw [em] at v
      refine isSo_ok (d := d) hb (hc : clo (inA c) (mm I D)) r v (fun I2 f2 r2 => rtP_i (Or.inr rfl) (aI_i rfl (hK I2 (f.tr f2) r2)))
    · rw [z32_lt (by omega) (by omega) (by omega) (by omega)]
      omega
  | succ z ih =>
    intro m hm I w3 w4 w5 w6 f r v
    have hlt : m < (zL (tS τ)).length := by omega
    obtain ⟨e, he⟩ : ∃ e, (zL (tS τ))[m]? = some e := ⟨_, List.getElem?_eq_getElem hlt⟩
    refine s_L_isFolded_6 _ _ _ _ _ _ (q_count0 (d := d + 1) r (brP_i (fun q => absurd q ?_) (fun _ => ?_)))
    · rw [z32_lt (by omega) (by omega) (by omega) (by omega)]
      omega
    · exact f_15 (d := d + 1) (I := I) hb hw (hc : clo (inA c) (mm I D)) wf r hl he v (fun I2 w3 w4 w5 w6 f2 r2 v2 => ih (m + 1) (by omega) I2 _ _ _ _ (f.tr f2) r2 v2)
/-! new cells -/
theorem RC.chx {I2 : IM} {D2 : DY} {c s : Nat} (h : RC τ I D) (hc : CHX XN I D I2 D2 c s) : RC τ I2 D2 := by
  obtain ⟨T, σ, κ⟩ := τ
  have h3 : TP I T := h.2.2.1
  have h1 := h.1
  exact h.mono (hc.1.in (fun _ _ e => e.elim)) (fun q j g1 _ => hc.2 q j g1 id) (h3.lo (hc.2 _ _ (by omega) id) (fun k => hc.2 _ _ (by omega) id))
theorem clo_gmk (hz : 159 ≤ dZ D) (h : clo XN (mm I D)) : clo (inA (dZ D)) (mm (zgI I (dZ D) 8) (gmk D 8 5 2)) := by
  have h2 := (FK.gmk (n := 8) (m := 5) h).2.1
  rw [mkG_mm 2 hz] at h2
  refine ⟨h2.1, fun a ha => ⟨by have := ha.1; omega, by have := ha.2; show a < dZ D + (1 + 8); omega⟩, fun a k b ha hr => ⟨(h2.2.2 a k b ha hr).1, fun hn q => ?_⟩⟩
  have ha2 : a < dZ D + (1 + 8) := ha
  have hlt : a < dZ D := Nat.not_le.mp (fun q2 => hn ⟨q2, by omega⟩)
  have e : pR (mm (zgI I (dZ D) 8) (gmk D 8 5 2)) a k = pR (mm I D) a k := by
    show (bif isFn a k then some (rfT a k) else (if a = dZ D then (if k < 8 then some (dZ D + 1 + k) else none) else if dZ D < a ∧ a < dZ D + (1 + 8) then none else dR D a k)) = _
    rw [if_neg (by omega), if_neg (by omega)]
    rfl
  rw [e] at hr
  have := (h.2.2 a k b hlt hr).1
  have q1 := q.1
  have this : b < dZ D := this
  omega
theorem isFolded_ok {K : Int32 → IM → DY → Prop} (r : RC τ I D) (wf : WF (tS τ)) (hc : clo XN (mm I D)) (hK : ∀ I2 D2, FrM I I2 → dZ D2 = dZ D + 9 → dL D2 = dL D + 48 → (∀ a, a < dZ D → dW D2 a = dW D a) → RC τ I2 D2 → K 1 I2 D2) : AI (d + 102) 203 [vR (some 45)] (mm I D) K := by
  have hz := r.1
  have hl : (zL (tS τ)).length ≤ 240 := r.L.2.1
  have c1 : CHX XN I D (zgI I (dZ D) 8) (gmk D 8 5 2) 9 48 := g_chx
  refine s_L_isFolded (s_L_bins ⟨_, _, mkG_mm 2 hz, aR_i rfl ?_⟩)
  refine f_6 (d := d) (BNS.new hz) (if_pos ⟨Nat.le_refl _, by omega⟩) wf hl (clo_gmk hz hc) (fun I2 f2 r2 => hK I2 _ (FrM.tr (fun q k h1 h2 => c1.2 q k (by omega) id) f2) rfl rfl (fun a ha => (c1.1.2.2.2 a ha).2.2.1) r2) (zL (tS τ)).length 0 (Nat.zero_add _) _ _ _ _ _ FrM.rf (r.chx c1) ?_
  exact BNV.new
end
