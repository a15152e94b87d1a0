/-! The states are the folds. -/
theorem ltV_le {e v : Nat} : ∀ (l : List (Nat × Nat)) (m : Nat), m ≤ v → ltV e v l m ≤ v
  | [], m, h => h
  | x :: l, m, h => by
    show ltV e v l (if x.2 = e ∧ x.1 ≤ v then (if m < x.1 then x.1 else m) else m) ≤ v
    refine ltV_le l _ ?_
    split
    · rename_i q
      split
      · exact q.2
      · exact h
    · exact h
theorem vrS_mono {L : List EV} {i n s : Nat} (h : i ≤ n) : vrS (L.take i) s ≤ vrS (L.take n) s := by
  have e : L.take i = (L.take n).take i := by
    rw [List.take_take]
    congr 1
    omega
  rw [e]
  exact vrS_take
theorem vrS_at {L : List EV} {n : Nat} {e : EV} (h : L[n]? = some e) : vrS (L.take (n + 1)) (eS e) = vrS (L.take n) (eS e) + 1 := by
  rw [take_s h, vrS_snoc, if_pos rfl]
section
variable {τ : ST} {n : Nat} {e : EV}
theorem fo_v (wf : WF (tS τ)) (he : (zL (tS τ))[n]? = some e) : eV e = vrS ((zL (tS τ)).take n) (eS e) + 1 ∧ eV e ≤ vrS (zL (tS τ)) (eS e) := by
  have h1 := wf.2.1 n e he
  refine ⟨h1.trans (vrS_at he), ?_⟩
  rw [h1]
  exact vrS_take
theorem fo_pos (wf : WF (tS τ)) (hl : (zL (tS τ)).length ≤ 240) (he : (zL (tS τ))[n]? = some e) : posL (eS e) (z32 (eV e : Int)) (zL (tS τ)) 1 = z32 ((n + 1 : Nat) : Int) := by
  obtain ⟨v1, v2⟩ := fo_v wf he
  obtain ⟨i, e2, g1, g2, g3, g4⟩ := posL_v wf.2.1 hl (s := eS e) (v := eV e) (by omega) v2
  rw [g4]
  have w1 := wf.2.1 i e2 g1
  have w2 := wf.2.1 n e he
  rw [g3, g2] at w1
  have a1 := vrS_at g1
  have a2 := vrS_at he
  rw [g2] at a1
  rcases Nat.lt_trichotomy i n with q | q | q
  · have := vrS_mono (L := zL (tS τ)) (s := eS e) (show i + 1 ≤ n by omega)
    omega
  · rw [q]
  · have := vrS_mono (L := zL (tS τ)) (s := eS e) (show n + 1 ≤ i by omega)
    omega
theorem rng8 {s : Nat} (h : s < 8) : (0 : Int32) ≤ z32 (s : Int) ∧ z32 (s : Int) ≤ 7 := by
  constructor
  · show z32 0 ≤ _
    rw [z32_le] <;> omega
  · show _ ≤ z32 7
    rw [z32_le] <;> omega
theorem rngN {a b c : Nat} (hc : c < 1000000) (h1 : a ≤ b) (h2 : b ≤ c) : z32 (a : Int) ≤ z32 (b : Int) ∧ z32 (b : Int) ≤ z32 (c : Int) := by
  constructor
  · rw [z32_le] <;> omega
  · rw [z32_le] <;> omega
theorem fo_event (hl : (zL (tS τ)).length ≤ 240) (he : (zL (tS τ))[n]? = some e) (w : Nat) (hw : w ≤ 7) : S_event τ (z32 ((n + 1 : Nat) : Int)) (z32 (w : Int)) = if 6 ≤ w then (if w = 6 then (rdE (zC (tS τ)) e).1 else (rdE (zC (tS τ)) e).2) else colE w e := by
  have hn := lt_of_get he
  unfold S_event
  rw [if_pos ⟨rngN (a := 1) (by omega) (by omega) (by omega), rngN (a := 0) (c := 7) (by omega) (by omega) hw⟩, aN_z (by omega), aN_z (by omega), Nat.add_sub_cancel, he]
  dsimp only
  by_cases q : 6 ≤ w
  · rw [if_pos q, if_pos (show (6 : Int32) ≤ z32 (w : Int) from (show z32 6 ≤ z32 (w : Int) by rw [z32_le] <;> omega))]
    by_cases q2 : w = 6
    · rw [if_pos q2, if_pos (show z32 (w : Int) = (6 : Int32) by rw [q2]; rfl)]
    · rw [if_neg q2, if_neg (show ¬ z32 (w : Int) = (6 : Int32) from (show ¬ z32 (w : Int) = z32 6 by rw [z32_inj] <;> omega))]
  · rw [if_neg q, if_neg (show ¬ (6 : Int32) ≤ z32 (w : Int) from (show ¬ z32 6 ≤ z32 (w : Int) by rw [z32_le] <;> omega))]
theorem fo_find (wf : WF (tS τ)) (hl : (zL (tS τ)).length ≤ 240) (he : (zL (tS τ))[n]? = some e) : S_find τ (z32 (eS e : Int)) (z32 (eV e : Int)) = z32 ((n + 1 : Nat) : Int) := by
  have h8 : eS e < 8 := (wf.1 e (List.mem_of_getElem? he)).1
  obtain ⟨v1, v2⟩ := fo_v wf he
  have hv : vrS (zL (tS τ)) (eS e) ≤ 240 := Nat.le_trans (List.length_filter_le _ _) hl
  unfold S_find
  rw [aN_z (by omega), if_pos ⟨⟨rng8 h8, rngN (a := 0) (by omega) (by omega) v2⟩, show ¬ z32 (eV e : Int) ≤ z32 0 by rw [z32_le (by omega) (by omega) (by omega) (by omega)]; omega⟩]
  exact fo_pos wf hl he
theorem fo_steps (wf : WF (tS τ)) (hl : (zL (tS τ)).length ≤ 240) (he : (zL (tS τ))[n]? = some e) : ¬ S_steps τ (z32 (eS e : Int)) (z32 (eV e : Int)) < 0 ∧ S_steps τ (z32 (eS e : Int)) (z32 (eV e : Int)) ≤ z32 (eV e : Int) := by
  have h8 : eS e < 8 := (wf.1 e (List.mem_of_getElem? he)).1
  obtain ⟨v1, v2⟩ := fo_v wf he
  have hv : vrS (zL (tS τ)) (eS e) ≤ 240 := Nat.le_trans (List.length_filter_le _ _) hl
  unfold S_steps
  rw [aN_z (by omega), aN_z (by omega), if_pos ⟨rng8 h8, rngN (a := 0) (by omega) (by omega) v2⟩, z32_sub]
  have := ltV_le (e := eraC (zC (tS τ))) (v := eV e) (zN (tS τ) (eS e)) 0 (Nat.zero_le _)
  constructor
  · show ¬ _ < z32 0
    rw [z32_lt (by omega) (by omega) (by omega) (by omega)]
    omega
  · rw [z32_le (by omega) (by omega) (by omega) (by omega)]
    omega
theorem fo_at (wf : WF (tS τ)) (hl : (zL (tS τ)).length ≤ 240) (he : (zL (tS τ))[n]? = some e) {k : Nat} (hk : k < 4) : S_at τ (z32 (eS e : Int)) (z32 (eV e : Int)) (z32 (k : Int)) = s4 k (stF (zC (tS τ)) ((zL (tS τ)).take (n + 1)) (eS e)) := by
  have h8 : eS e < 8 := (wf.1 e (List.mem_of_getElem? he)).1
  have hn := lt_of_get he
  obtain ⟨v1, v2⟩ := fo_v wf he
  have hv : vrS (zL (tS τ)) (eS e) ≤ 240 := Nat.le_trans (List.length_filter_le _ _) hl
  unfold S_at
  have hp : posN τ (z32 (eS e : Int)) (z32 (eV e : Int)) = n + 1 := by
    unfold posN
    rw [if_neg (show ¬ z32 (eV e : Int) = (0 : Int32) from (show ¬ z32 (eV e : Int) = z32 0 by rw [z32_inj (by omega) (by omega) (by omega) (by omega)]; omega)), aN_z (by omega), fo_pos wf hl he, aN_z (by omega)]
  rw [aN_z (by omega), aN_z (by omega), if_pos ⟨⟨rng8 h8, rngN (a := 0) (by omega) (by omega) v2⟩, rngN (a := 0) (c := 3) (by omega) (by omega) (show k ≤ 3 by omega)⟩, hp]
theorem fo_state {s k : Nat} (hs : s < 8) (hk : k < 5) : S_state τ (z32 (s : Int)) (z32 (k : Int)) = if k = 4 then z32 (vrS (zL (tS τ)) s : Int) else s4 k (stF (zC (tS τ)) (zL (tS τ)) s) := by
  unfold S_state
  rw [aN_z (by omega), aN_z (by omega), if_pos ⟨rng8 hs, rngN (a := 0) (c := 4) (by omega) (by omega) (show k ≤ 4 by omega)⟩]
  by_cases q : k = 4
  · rw [if_pos q, if_pos (show z32 (k : Int) = (4 : Int32) by rw [q]; rfl)]
  · rw [if_neg q, if_neg (show ¬ z32 (k : Int) = (4 : Int32) from (show ¬ z32 (k : Int) = z32 4 by rw [z32_inj] <;> omega))]
end
/-! one event's change, as the law writes it -/
def y1 (k : Nat) (x : S4) : S4 := if k = 0 then (1, x.2.1, x.2.2.1, x.2.2.2) else x
def y2 (k : Nat) (a : Int32) (x : S4) : S4 := if k = 0 ∨ k = 5 then (x.1, x.2.1, x.2.2.1, a) else x
def y3 (k : Nat) (x : S4) : S4 := if k = 8 then (2, x.2.1, x.2.2.1, x.2.2.2) else x
def d1 (k : Nat) (a : Int32) : Int32 := if k = 1 ∨ k = 7 then a else if k = 2 ∨ k = 6 then -a else 0
def d2 (k : Nat) (a : Int32) : Int32 := if k = 3 then a else if k = 4 then -a else 0
def y4 (k : Nat) (a : Int32) (x : S4) : S4 := (x.1, x.2.1 + d1 k a, x.2.2.1, x.2.2.2)
def y5 (k : Nat) (a : Int32) (x : S4) : S4 := (x.1, x.2.1, x.2.2.1 + d2 k a, x.2.2.2)
theorem y_chg {k : Nat} {a : Int32} {x : S4} (hk : k < 9) : y5 k a (y4 k a (y3 k (y2 k a (y1 k x)))) = chg k a x := by
  obtain ⟨x1, x2, x3, x4⟩ := x
  have e0 : ∀ z : Int32, z + 0 = z := Int32.add_zero
  have e1 : ∀ z y : Int32, z + -y = z - y := fun z y => (Int32.sub_eq_add_neg z y).symm
  obtain rfl | rfl | rfl | rfl | rfl | rfl | rfl | rfl | rfl : k = 0 ∨ k = 1 ∨ k = 2 ∨ k = 3 ∨ k = 4 ∨ k = 5 ∨ k = 6 ∨ k = 7 ∨ k = 8 := by omega
  all_goals simp [y5, y4, y3, y2, y1, d1, d2, chg, e0, e1]
theorem updF_id {α : Type} {f : Nat → α} {s : Nat} : updF f s (f s) = f := by
  funext t
  unfold updF
  by_cases h : t = s
  · rw [if_pos h, h]
  · rw [if_neg h]
theorem ke {a b : Nat} (ha : a < 9) (hb : b < 9) : (z32 (a : Int) = z32 (b : Int)) ↔ a = b := by rw [z32_inj] <;> omega
theorem keL {a : Nat} {x : Int32} (b : Nat) (ha : a < 9) (hb : b < 9) (e : x = z32 (b : Int)) : (z32 (a : Int) = x) ↔ a = b := by rw [e, ke ha hb]
section
variable {d : Nat} {I : IM} {D : DY} {c s k : Nat} {f : Nat → S4} {g : Nat → Nat} {x : S4} {a p : Int32} {w6 : PV} {Q : Option PV → PM → Prop}
theorem f_50 (hb : BNS D c) (hs : s < 8) (hk : k < 9) (hv : BNV I c (updF f s x) g) (h : ∀ I2, (∀ q j, ¬ inA c q → I2 q j = I q j) → BNV I2 c (updF f s (y2 k a x)) g → Wp GG (d + 1) 203 68 [vR (some 45), vR (some c), vI p, vI (z32 (s : Int)), vI (z32 (k : Int)), vI a, w6] [] (mm I2 D) Q) :
    Wp GG (d + 1) 203 50 [vR (some 45), vR (some c), vI p, vI (z32 (s : Int)), vI (z32 (k : Int)), vI a, w6] [] (mm I D) Q := by
  have wr : k = 0 ∨ k = 5 → Wp GG (d + 1) 203 68 [vR (some 45), vR (some c), vI p, vI (z32 (s : Int)), vI (z32 (k : Int)), vI a, w6] [] (mm (up2 I (c + 1 + s) 3 a) D) Q := fun q => by
    refine h _ (fun q j hq => up2_ne (fun e => hq ⟨by omega, by omega⟩)) ?_
    have := hv.up4 (w := 3) (v := a) (x := y2 k a x) hs (by omega) (by unfold y2; rw [if_pos q]; rfl) (fun j hj hj2 => by
      rw [updF_eq]
      unfold y2
      rw [if_pos q]
      obtain rfl | rfl | rfl : j = 0 ∨ j = 1 ∨ j = 2 := by omega
      all_goals rfl)
    rwa [updF_upd] at this
  refine s_L_isFolded_50 _ _ _ _ _ _ (brP_i (fun q => ?_) (fun q => brP_i (fun q2 => ?_) (fun q2 => ?_)))
  · rw [keL (x := 0) 0 hk (by omega) rfl] at q
    exact hb.go hs (hb.at (w := 3) hs (by omega) (wr (Or.inl q)))
  · rw [keL (x := 0) 0 hk (by omega) rfl] at q
    rw [keL (x := 5) 5 hk (by omega) rfl] at q2
    refine h I (fun _ _ _ => rfl) ?_
    unfold y2
    rw [if_neg (by omega)]
    exact hv
  · rw [keL (x := 5) 5 hk (by omega) rfl] at q2
    exact hb.go hs (hb.at (w := 3) hs (by omega) (wr (Or.inr (by omega))))
theorem f_68 (hb : BNS D c) (hs : s < 8) (hk : k < 9) (hv : BNV I c (updF f s x) g) (h : ∀ I2, (∀ q j, ¬ inA c q → I2 q j = I q j) → BNV I2 c (updF f s (y3 k x)) g → Wp GG (d + 1) 203 81 [vR (some 45), vR (some c), vI p, vI (z32 (s : Int)), vI (z32 (k : Int)), vI a, w6] [] (mm I2 D) Q) :
    Wp GG (d + 1) 203 68 [vR (some 45), vR (some c), vI p, vI (z32 (s : Int)), vI (z32 (k : Int)), vI a, w6] [] (mm I D) Q := by
  refine s_L_isFolded_68 _ _ _ _ _ _ (brP_i (fun q => ?_) (fun q => ?_))
  · rw [keL (x := 8) 8 hk (by omega) rfl] at q
    refine h I (fun _ _ _ => rfl) ?_
    unfold y3
    rw [if_neg q]
    exact hv
  · rw [keL (x := 8) 8 hk (by omega) rfl] at q
    have q : k = 8 := Classical.not_not.mp q
    refine hb.go hs (hb.at (w := 0) hs (by omega) (h _ (fun q j hq => up2_ne (fun e => hq ⟨by omega, by omega⟩)) ?_))
    have := hv.up4 (w := 0) (v := 2) (x := y3 k x) hs (by omega) (by unfold y3; rw [if_pos q]; rfl) (fun j hj hj2 => by
      rw [updF_eq]
      unfold y3
      rw [if_pos q]
      obtain rfl | rfl | rfl : j = 1 ∨ j = 2 ∨ j = 3 := by omega
      all_goals rfl)
    rwa [updF_upd] at this
theorem f_81 (hb : BNS D c) (hs : s < 8) (hk : k < 9) (hv : BNV I c (updF f s x) g) (h : Wp GG (d + 1) 203 125 [vR (some 45), vR (some c), vI p, vI (z32 (s : Int)), vI (z32 (k : Int)), vI a, w6] [vI (d1 k a), vI x.2.1, vI 1, vR (some (c + 1 + s))] (mm I D) Q) :
    Wp GG (d + 1) 203 81 [vR (some 45), vR (some c), vI p, vI (z32 (s : Int)), vI (z32 (k : Int)), vI a, w6] [] (mm I D) Q := by
  have e1 : pR (mm I D) c (ixN (z32 (s : Int))) = some (c + 1 + s) := by rw [ix_n (by omega)]; exact (hb.r hs).1
  have e2 : I (c + 1 + s) 1 = x.2.1 := by
    have := (hv s hs).1 1 (by omega)
    rw [updF_eq] at this
    exact this
  refine s_L_isFolded_81 _ _ _ _ _ _ (hb.go hs (hb.at (w := 1) hs (by omega) ?_))
  rw [e1, e2]
  unfold d1 at h
  refine brP_i (fun q => ?_) (fun q => brP_i (fun q2 => brP_i (fun q3 => ?_) (fun q3 => brP_i (fun q4 => ?_) (fun q4 => ?_))) (fun q2 => ?_))
  · rw [keL (x := 1) 1 hk (by omega) rfl] at q
    rw [if_pos (Or.inl q)] at h
    exact h
  · rw [keL (x := 1) 1 hk (by omega) rfl] at q
    rw [keL (x := 7) 7 hk (by omega) rfl] at q2
    rw [keL (x := 2) 2 hk (by omega) rfl] at q3
    rw [if_neg (by omega), if_pos (Or.inl q3)] at h
    exact h
  · rw [keL (x := 1) 1 hk (by omega) rfl] at q
    rw [keL (x := 7) 7 hk (by omega) rfl] at q2
    rw [keL (x := 2) 2 hk (by omega) rfl] at q3
    rw [keL (x := 6) 6 hk (by omega) rfl] at q4
    rw [if_neg (by omega), if_neg (by omega)] at h
    exact h
  · rw [keL (x := 1) 1 hk (by omega) rfl] at q
    rw [keL (x := 7) 7 hk (by omega) rfl] at q2
    rw [keL (x := 2) 2 hk (by omega) rfl] at q3
    rw [keL (x := 6) 6 hk (by omega) rfl] at q4
    rw [if_neg (by omega), if_pos (by omega)] at h
    exact h
  · rw [keL (x := 7) 7 hk (by omega) rfl] at q2
    rw [if_pos (Or.inr (by omega))] at h
    exact h
theorem f_125 (hb : BNS D c) (hs : s < 8) (hk : k < 9) (hv : BNV I c (updF f s x) g) (h : ∀ I2, (∀ q j, ¬ inA c q → I2 q j = I q j) → BNV I2 c (updF f s (y4 k a x)) g → Wp GG (d + 1) 203 157 [vR (some 45), vR (some c), vI p, vI (z32 (s : Int)), vI (z32 (k : Int)), vI a, w6] [vI (d2 k a), vI x.2.2.1, vI 2, vR (some (c + 1 + s))] (mm I2 D) Q) :
    Wp GG (d + 1) 203 125 [vR (some 45), vR (some c), vI p, vI (z32 (s : Int)), vI (z32 (k : Int)), vI a, w6] [vI (d1 k a), vI x.2.1, vI 1, vR (some (c + 1 + s))] (mm I D) Q := by
  have h2 := h (up2 I (c + 1 + s) 1 (x.2.1 + d1 k a)) (fun q j hq => up2_ne (fun e => hq ⟨by omega, by omega⟩)) (by
    have := hv.up4 (w := 1) (v := x.2.1 + d1 k a) (x := y4 k a x) hs (by omega) rfl (fun j hj hj2 => by
      rw [updF_eq]
      obtain rfl | rfl | rfl : j = 0 ∨ j = 2 ∨ j = 3 := by omega
      all_goals rfl)
    rwa [updF_upd] at this)
  have e1 : pR (mm (up2 I (c + 1 + s) 1 (x.2.1 + d1 k a)) D) c (ixN (z32 (s : Int))) = some (c + 1 + s) := by rw [ix_n (by omega)]; exact (hb.r hs).1
  have e2 : (up2 I (c + 1 + s) 1 (x.2.1 + d1 k a)) (c + 1 + s) 2 = x.2.2.1 := by
    rw [up2_nj (by omega)]
    have := (hv s hs).1 2 (by omega)
    rw [updF_eq] at this
    exact this
  refine s_L_isFolded_125 _ _ _ _ _ _ _ _ _ _ (hb.at (w := 1) hs (by omega) (hb.go hs (hb.at (w := 2) hs (by omega) ?_)))
  show brP _ (brP _ (Wp GG (d + 1) 203 157 [vR (some 45), vR (some c), vI p, vI (z32 (s : Int)), vI (z32 (k : Int)), vI a, w6] [vI 0, vI ((up2 I (c + 1 + s) 1 (x.2.1 + d1 k a)) (c + 1 + s) 2), vI 2, vR (pR (mm (up2 I (c + 1 + s) 1 (x.2.1 + d1 k a)) D) c (ixN (z32 (s : Int))))] (mm (up2 I (c + 1 + s) 1 (x.2.1 + d1 k a)) D) Q) (Wp GG (d + 1) 203 157 [vR (some 45), vR (some c), vI p, vI (z32 (s : Int)), vI (z32 (k : Int)), vI a, w6] [vI (-a), vI ((up2 I (c + 1 + s) 1 (x.2.1 + d1 k a)) (c + 1 + s) 2), vI 2, vR (pR (mm (up2 I (c + 1 + s) 1 (x.2.1 + d1 k a)) D) c (ixN (z32 (s : Int))))] (mm (up2 I (c + 1 + s) 1 (x.2.1 + d1 k a)) D) Q)) (Wp GG (d + 1) 203 157 [vR (some 45), vR (some c), vI p, vI (z32 (s : Int)), vI (z32 (k : Int)), vI a, w6] [vI a, vI ((up2 I (c + 1 + s) 1 (x.2.1 + d1 k a)) (c + 1 + s) 2), vI 2, vR (pR (mm (up2 I (c + 1 + s) 1 (x.2.1 + d1 k a)) D) c (ixN (z32 (s : Int))))] (mm (up2 I (c + 1 + s) 1 (x.2.1 + d1 k a)) D) Q)
  rw [e1, e2]
  unfold d2 at h2
  refine brP_i (fun q => brP_i (fun q2 => ?_) (fun q2 => ?_)) (fun q => ?_)
  · rw [keL (x := 3) 3 hk (by omega) rfl] at q
    rw [keL (x := 4) 4 hk (by omega) rfl] at q2
    rw [if_neg q, if_neg q2] at h2
    exact h2
  · rw [keL (x := 3) 3 hk (by omega) rfl] at q
    rw [keL (x := 4) 4 hk (by omega) rfl] at q2
    rw [if_neg q, if_pos (by omega)] at h2
    exact h2
  · rw [keL (x := 3) 3 hk (by omega) rfl] at q
    rw [if_pos (by omega)] at h2
    exact h2
end
section
variable {d : Nat} {I : IM} {D : DY} {c : Nat} {τ : ST}
theorem vr240 (hl : (zL (tS τ)).length ≤ 240) {s : Nat} : vrS (zL (tS τ)) s ≤ 240 := Nat.le_trans (List.length_filter_le _ _) hl
/-! the states are those rows -/
def BNT (I : IM) (c : Nat) (τ : ST) : Prop := BNV I c (stF (zC (tS τ)) (zL (tS τ))) (vrS (zL (tS τ)))
theorem so_9 {I0 : IM} {K : Int32 → IM → Prop} (hb : BNS D c) (hc : clo (inA c) (mm I0 D)) {s : Nat} (hs : s < 3) (nx : ∀ I2 w, FrM I0 I2 → RC τ I2 D → BNT I2 c τ → Wp GG (d + 101) 201 2 [vR (some 45), vR (some c), vI (z32 ((s + 1 : Nat) : Int)), w] [] (mm I2 D) (qI (mm I0 D) K)) : ∀ (g k : Nat), k + g = 5 → ∀ I, FrM I0 I → RC τ I D → BNT I c τ →
    Wp GG (d + 101) 201 9 [vR (some 45), vR (some c), vI (z32 (s : Int)), vI (z32 (k : Int))] [] (mm I D) (qI (mm I0 D) K) := by
  intro g
  induction g with
  | zero =>
    intro k hk I f r v
    refine s_L_isSo_9 _ _ _ (brP_i (fun _ => ?_) (fun q => absurd (show z32 5 ≤ z32 (k : Int) by rw [z32_le] <;> omega) q))
    rw [z32_s]
    exact nx I _ f r v
  | succ g ih =>
    intro k hk I f r v
    refine s_L_isSo_9 _ _ _ (brP_i (fun q => absurd q (show ¬ z32 5 ≤ z32 (k : Int) by rw [z32_le (by omega) (by omega) (by omega) (by omega)]; omega)) (fun _ => ?_))
    have hk5 : k < 5 := by omega
    refine q_state (A := inA c) r (hc : clo (inA c) (mm I D)) _ _ (fun I2 f2 r2 a2 => ?_)
    have v2 : BNT I2 c τ := v.fr a2
    rw [fo_state (show s < 8 by omega) hk5]
    refine hb.go (by omega) (hb.at (w := k) (by omega) hk5 (brP_i (fun _ => ?_) (fun q => absurd ?_ q)))
    · rw [z32_s]
      exact ih (k + 1) (by omega) I2 (f.tr f2) r2 v2
    · rw [ix_n (by omega)]
      by_cases e : k = 4
      · rw [if_pos e, e]
        exact ((v2 s (by omega)).2).symm
      · rw [if_neg e]
        exact ((v2 s (by omega)).1 k (by omega)).symm
theorem so_2 {I0 : IM} {K : Int32 → IM → Prop} (hb : BNS D c) (hc : clo (inA c) (mm I0 D)) (hK : ∀ I2, FrM I0 I2 → RC τ I2 D → K 1 I2) : ∀ (g s : Nat), s + g = 3 → ∀ I w, FrM I0 I → RC τ I D → BNT I c τ →
    Wp GG (d + 101) 201 2 [vR (some 45), vR (some c), vI (z32 (s : Int)), w] [] (mm I D) (qI (mm I0 D) K) := by
  intro g
  induction g with
  | zero =>
    intro s hs I w f r v
    refine s_L_isSo_2 _ _ _ (brP_i (fun _ => qI_i (hK I f r)) (fun q => absurd (show z32 3 ≤ z32 (s : Int) by rw [z32_le] <;> omega) q))
  | succ g ih =>
    intro s hs I w f r v
    refine s_L_isSo_2 _ _ _ (brP_i (fun q => absurd q (show ¬ z32 3 ≤ z32 (s : Int) by rw [z32_le (by omega) (by omega) (by omega) (by omega)]; omega)) (fun _ => ?_))
    exact so_9 (d := d) hb hc (by omega) (fun I2 w f2 r2 v2 => ih (s + 1) (by omega) I2 w f2 r2 v2) 5 0 (by omega) I f r v
theorem isSo_ok {K : Int32 → IM → Prop} (hb : BNS D c) (hc : clo (inA c) (mm I D)) (r : RC τ I D) (v : BNT I c τ) (hK : ∀ I2, FrM I I2 → RC τ I2 D → K 1 I2) : CI (d + 101) 201 [vR (some 45), vR (some c)] (mm I D) K :=
  s_L_isSo _ (so_2 (d := d) hb hc hK 3 0 (by omega) I _ FrM.rf r v)
end
