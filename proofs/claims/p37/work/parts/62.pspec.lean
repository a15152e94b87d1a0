/-! What is so of the law's store. -/
def SPC (h : Nat) (σ : SS) : Prop := ∃ x0 x1, (zP σ 0 0 = some x0 ∧ zP σ 0 1 = some x1) ∧ (jF x0 = 0 ∧ jM x0 = 130 ∧ jY x0 = 0) ∧ (jF x1 = 1 ∧ jM x1 = 511 ∧ jY x1 = 1) ∧ (PJI x0 ((zL σ).take (jP x0)) ∧ PJI x1 ((zL σ).take (jP x1))) ∧ (jP x0 ≤ (zL σ).length ∧ jP x1 ≤ (zL σ).length) ∧
  (zD σ 4 = z32 (h : Int) ∧ jP x0 + jP x1 = h) ∧ (∀ p x, p < 4 → zQ σ p = some x → okCm (qlK x) ∧ (qlK x).1 ≠ 6) ∧ ∃ q, zQ σ 0 = some q
theorem SPC.grw {h : Nat} {σ σ2 : SS} (hs : SPC h σ) (g : GRW σ σ2) : SPC h σ2 := by
  obtain ⟨x0, x1, ⟨a1, a2⟩, b, c, ⟨d1, d2⟩, ⟨e1, e2⟩, ⟨f1, f2⟩, g1, g2⟩ := hs
  obtain ⟨⟨K, k1⟩, k2, k3, k4, k5⟩ := g
  have ln : (zL σ2).length = (zL σ).length + K.length := by rw [k1, List.length_append]
  refine ⟨x0, x1, ⟨by rw [k3]; exact a1, by rw [k3]; exact a2⟩, b, c, ⟨?_, ?_⟩, ⟨by omega, by omega⟩, ⟨k5.trans f1, f2⟩, by rw [k4]; exact g1, by rw [k4]; exact g2⟩
  · rw [k1, List.take_append_of_le_length e1]
    exact d1
  · rw [k1, List.take_append_of_le_length e2]
    exact d2
theorem SPC.same {h : Nat} {σ σ2 : SS} (hs : SPC h σ) (k1 : zL σ2 = zL σ) (k3 : zP σ2 = zP σ) (k4 : zQ σ2 = zQ σ) (k5 : zD σ2 4 = zD σ 4) : SPC h σ2 := by
  obtain ⟨x0, x1, ⟨a1, a2⟩, b, c, ⟨d1, d2⟩, ⟨e1, e2⟩, ⟨f1, f2⟩, g1, g2⟩ := hs
  exact ⟨x0, x1, ⟨by rw [k3]; exact a1, by rw [k3]; exact a2⟩, b, c, ⟨by rw [k1]; exact d1, by rw [k1]; exact d2⟩, ⟨by rw [k1]; exact e1, by rw [k1]; exact e2⟩, ⟨k5.trans f1, f2⟩, by rw [k4]; exact g1, by rw [k4]; exact g2⟩
section
variable {σ : SS} {κ : Option SS} {T : Tx} {h : Nat}
/-- delivering -/
theorem dlv_eq {p n f : Nat} {x : PJ} (hp : p < 3) (hn : 1 ≤ n ∧ n ≤ 240) (hf : 1 ≤ f ∧ f ≤ 1000) (w : Nat) (hw : w < 2) (hx : zP σ w p = some x) : S_deliver (T, σ, κ) (z32 (p : Int)) (z32 (w : Int)) (z32 (f : Int)) (z32 (n : Int)) = ((T, wD (setPJ σ w p (some (dlv (zC σ) (zL σ) n f x (zD σ) 0).1)) (dlv (zC σ) (zL σ) n f x (zD σ) 0).2.1, κ), z32 ((dlv (zC σ) (zL σ) n f x (zD σ) 0).2.2 : Int)) := by
  have hp3 : (0 : Int32) ≤ z32 (p : Int) ∧ z32 (p : Int) ≤ 3 := rngN (a := 0) (c := 3) (by omega) (by omega) (by omega)
  have hw3 : (0 : Int32) ≤ z32 (w : Int) ∧ z32 (w : Int) ≤ 1 := rngN (a := 0) (c := 1) (by omega) (by omega) (by omega)
  have hn2 : (1 : Int32) ≤ z32 (n : Int) ∧ z32 (n : Int) ≤ 240 := rngN (a := 1) (b := n) (c := 240) (by omega) hn.1 hn.2
  have hf1 : ¬ z32 (f : Int) < 1 := by
    show ¬ z32 _ < z32 1
    rw [z32_lt (by omega) (by omega) (by omega) (by omega)]
    omega
  unfold S_deliver
  rw [if_pos ⟨hp3, hw3, hf1, hn2⟩, aN_z (n := p) (by omega), aN_z (n := w) (by omega), aN_z (n := f) (by omega), aN_z (n := n) (by omega)]
  show (match zP σ w p with
    | none => _
    | some x => _) = _
  rw [hx]
theorem spc_dlv (hs : SPC h σ) {p n f : Nat} (hp : p < 2) (hn : 1 ≤ n ∧ n ≤ 240) (hf : 1 ≤ f ∧ f ≤ 1000) : ∃ c : Nat, c ≤ 240 ∧ (S_deliver (T, σ, κ) (z32 (p : Int)) 0 (z32 (f : Int)) (z32 (n : Int))).2 = z32 (c : Int) ∧ ∃ σ2, (S_deliver (T, σ, κ) (z32 (p : Int)) 0 (z32 (f : Int)) (z32 (n : Int))).1 = (T, σ2, κ) ∧ SPC (h + c) σ2 ∧ zL σ2 = zL σ ∧ zA σ2 = zA σ := by
  obtain ⟨x0, x1, ⟨a1, a2⟩, b, c, ⟨d1, d2⟩, ⟨e1, e2⟩, ⟨f1, f2⟩, g1, g2⟩ := hs
  have fin : ∀ x, zP σ 0 p = some x → PJI x ((zL σ).take (jP x)) → jP x ≤ (zL σ).length → (∀ m, TXS x (dlv (zC σ) (zL σ) n f x (zD σ) 0).1 → jP (dlv (zC σ) (zL σ) n f x (zD σ) 0).1 = jP x + m → (dlv (zC σ) (zL σ) n f x (zD σ) 0).2.1 4 = zD σ 4 + z32 (m : Int) → PJI (dlv (zC σ) (zL σ) n f x (zD σ) 0).1 ((zL σ).take (jP x + m)) → jP x + m ≤ (zL σ).length → SPC (h + m) (wD (setPJ σ 0 p (some (dlv (zC σ) (zL σ) n f x (zD σ) 0).1)) (dlv (zC σ) (zL σ) n f x (zD σ) 0).2.1)) →
      ∃ c : Nat, c ≤ 240 ∧ (S_deliver (T, σ, κ) (z32 (p : Int)) 0 (z32 (f : Int)) (z32 (n : Int))).2 = z32 (c : Int) ∧ ∃ σ2, (S_deliver (T, σ, κ) (z32 (p : Int)) 0 (z32 (f : Int)) (z32 (n : Int))).1 = (T, σ2, κ) ∧ SPC (h + c) σ2 ∧ zL σ2 = zL σ ∧ zA σ2 = zA σ := fun x hx hI hP go => by
    obtain ⟨m, q1, q2, q3, q4, q5, q6, q7⟩ := dlv_ok (C := zC σ) n f x (zD σ) 0 hf.1 hI hP
    have e0 := dlv_eq (T := T) (κ := κ) (show p < 3 by omega) hn hf 0 (by omega) hx
    refine ⟨m, by omega, ?_, _, congrArg Prod.fst e0, go m q5 q2 q3 q4 q6, rfl, rfl⟩
    refine (congrArg Prod.snd e0).trans ?_
    show z32 ((dlv (zC σ) (zL σ) n f x (zD σ) 0).2.2 : Int) = _
    rw [q1, Nat.zero_add]
  obtain rfl | rfl : p = 0 ∨ p = 1 := by omega
  · refine fin x0 a1 d1 e1 (fun m t1 t2 t3 t4 t5 => ?_)
    refine ⟨(dlv (zC σ) (zL σ) n f x0 (zD σ) 0).1, x1, ⟨rfl, a2⟩, ⟨t1.1.trans b.1, t1.2.1.trans b.2.1, t1.2.2.1.trans b.2.2⟩, c, ⟨by rw [t2]; exact t4, d2⟩, ⟨by rw [t2]; exact t5, e2⟩, ⟨?_, by omega⟩, g1, g2⟩
    show (dlv (zC σ) (zL σ) n f x0 (zD σ) 0).2.1 4 = _
    rw [t3, f1, z32_add]
    rfl
  · refine fin x1 a2 d2 e2 (fun m t1 t2 t3 t4 t5 => ?_)
    refine ⟨x0, (dlv (zC σ) (zL σ) n f x1 (zD σ) 0).1, ⟨a1, rfl⟩, b, ⟨t1.1.trans c.1, t1.2.1.trans c.2.1, t1.2.2.1.trans c.2.2⟩, ⟨d1, by rw [t2]; exact t4⟩, ⟨e1, by rw [t2]; exact t5⟩, ⟨?_, by omega⟩, g1, g2⟩
    show (dlv (zC σ) (zL σ) n f x1 (zD σ) 0).2.1 4 = _
    rw [t3, f1, z32_add]
    rfl
/-- the policy runs -/
theorem spc_run (hs : SPC h σ) {n : Nat} (hn : 1 ≤ n ∧ n ≤ 240) : ∃ c : Nat, c ≤ 240 ∧ (S_run (T, σ, κ) 0 (z32 (n : Int))).2 = z32 (c : Int) ∧ ∃ σ2, (S_run (T, σ, κ) 0 (z32 (n : Int))).1 = (T, σ2, κ) ∧ SPC h σ2 ∧ (zL σ2).length ≤ (zL σ).length + c ∧ zA σ2 = zA σ := by
  have hs0 := hs
  obtain ⟨x0, x1, -, -, -, -, -, -, g1, q, hq⟩ := hs
  obtain ⟨c, r1, r2, r3, r4, r5, r6⟩ := ran_ok n σ q 0 (g1 0 q (by omega) hq).2
  have hn2 : (1 : Int32) ≤ z32 (n : Int) ∧ z32 (n : Int) ≤ 240 := rngN (a := 1) (b := n) (c := 240) (by omega) hn.1 hn.2
  have e0 : S_run (T, σ, κ) 0 (z32 (n : Int)) = ((T, setQS (ranS n σ q 0).1 0 (ranS n σ q 0).2.1, κ), z32 ((ranS n σ q 0).2.2 : Int)) := by
    unfold S_run
    rw [if_pos ⟨by decide, hn2⟩, aN_z (n := n) (by omega)]
    show (match zQ σ 0 with
      | none => _
      | some x => _) = _
    rw [hq]
    rfl
  refine ⟨c, by omega, ?_, _, congrArg Prod.fst e0, ?_, r6, r4⟩
  · refine (congrArg Prod.snd e0).trans ?_
    show z32 ((ranS n σ q 0).2.2 : Int) = _
    rw [r1, Nat.zero_add]
  · obtain ⟨x0, x1, b1, b2, b3, b4, b5, b6, b7, q2, hq2⟩ := hs0.grw r3
    refine ⟨x0, x1, b1, b2, b3, b4, b5, b6, fun p x hp hx => ?_, ⟨(ranS n σ q 0).2.1, updF_eq (f := zQ (ranS n σ q 0).1) (s := 0)⟩⟩
    have hx : updF (zQ (ranS n σ q 0).1) 0 (some (ranS n σ q 0).2.1) p = some x := hx
    by_cases z : p = 0
    · rw [z, updF_eq] at hx
      cases hx
      have := g1 0 q (by omega) hq
      rw [← r5] at this
      exact this
    · rw [updF_ne z] at hx
      exact b7 p x hp hx
/-- asking -/
theorem S_ask_eq {s ex n : Int32} {cm : Cm} (hr : (0 ≤ s ∧ s ≤ 7) ∧ ¬ ex < -1 ∧ 0 ≤ n ∧ n ≤ 999) (hp : allP T (cmP false T) = .inl cm) : S_ask (T, σ, κ) s ex n = (([], (askS σ (aN s) ex (aN n) cm).1, κ), (askS σ (aN s) ex (aN n) cm).2) := by
  unfold S_ask
  rw [if_pos hr]
  show (match allP T (cmP false T) with
    | .inr f => _
    | .inl cm => _) = _
  rw [hp]
theorem S_batch_eq {l : List LN} (hp : allP T (lnsP 40 [] T) = .inl l) : S_batch (T, σ, κ) = (([], (batS σ l).1, κ), (batS σ l).2) := by
  unfold S_batch
  show (match allP T (lnsP 40 [] T) with
    | .inr f => _
    | .inl l => _) = _
  rw [hp]
theorem S_upcast_eq {x : Nat × Tx × Tx} (hp : allP T (upP T) = .inl x) : S_upcast (T, σ, κ) = (([], (upcS σ x.1 x.2.1 x.2.2).1, κ), (upcS σ x.1 x.2.1 x.2.2).2) := by
  unfold S_upcast
  show (match allP T (upP T) with
    | .inr f => _
    | .inl x => _) = _
  rw [hp]
theorem era_le (C : CF) {k : Nat} (hk : k < 9) : (C k).length ≤ eraC C := by
  unfold eraC
  show _ ≤ ((((((((0 + (C 0).length) + (C 1).length) + (C 2).length) + (C 3).length) + (C 4).length) + (C 5).length) + (C 6).length) + (C 7).length) + (C 8).length
  obtain rfl | rfl | rfl | rfl | rfl | rfl | rfl | rfl | rfl : k = 0 ∨ k = 1 ∨ k = 2 ∨ k = 3 ∨ k = 4 ∨ k = 5 ∨ k = 6 ∨ k = 7 ∨ k = 8 := by omega
  all_goals omega
theorem par_35k : ∃ x, allP (sL 35) (upP (sL 35)) = .inl x ∧ x.1 < 9 := ⟨_, rfl, by decide⟩
theorem par_36k : ∃ x, allP (sL 36) (upP (sL 36)) = .inl x ∧ x.1 < 9 := ⟨_, rfl, by decide⟩
theorem spc_upc (hs : SPC h σ) {k : Nat} {a b : Tx} (hk : k < 9) (he : eraC (zC σ) < 2) : ∃ m : Nat, 2 ≤ m ∧ m ≤ 5 ∧ (upcS σ k a b).2 = z32 (m : Int) ∧ SPC h (upcS σ k a b).1 ∧ zL (upcS σ k a b).1 = zL σ ∧ zA (upcS σ k a b).1 = zA σ := by
  have := era_le (zC σ) hk
  unfold upcS
  rw [if_pos (by omega)]
  exact ⟨_, by omega, by omega, rfl, hs.same rfl rfl rfl rfl, rfl, rfl⟩
end
