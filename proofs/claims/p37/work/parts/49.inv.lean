/-! What holds of every store stays so. -/
theorem VOk.com {σ : SS} {s k : Nat} {a b : Int32} (h : VOk σ) : VOk (comS σ s k a b) := fun i e he => by
  have he : (zL σ ++ [evN σ s k a b])[i]? = some e := he
  show eV e = vrS ((zL σ ++ [evN σ s k a b]).take (i + 1)) (eS e)
  have hi := lt_of_get he
  rw [List.length_append, List.length_singleton] at hi
  rcases Nat.lt_or_ge i (zL σ).length with q | q
  · rw [List.getElem?_append_left q] at he
    rw [List.take_append_of_le_length (by omega)]
    exact h i e he
  · obtain rfl : i = (zL σ).length := by omega
    rw [get_mid] at he
    cases he
    rw [List.take_of_length_le (by rw [List.length_append, List.length_singleton]; omega), vrS_snoc, if_pos rfl]
    rfl
theorem comS_len {σ : SS} {s k : Nat} {a b : Int32} : (zL (comS σ s k a b)).length = (zL σ).length + 1 := by
  show (zL σ ++ [_]).length = _
  rw [List.length_append, List.length_singleton]
theorem WF.com {σ : SS} {s k : Nat} {a b : Int32} (h : WF σ) (hs : s < 8) (hk : k < 9) : WF (comS σ s k a b) := by
  obtain ⟨h1, h2, h3, h4, h5, h6, h7⟩ := h
  refine ⟨comS_ok h1 hs hk, h2.com, h3, h4, fun w p x g1 g2 g3 => ?_, fun p x g1 g2 => ?_, h7⟩
  · rw [comS_len]
    exact Nat.le_succ_of_le (h5 w p x g1 g2 g3)
  · rw [comS_len]
    exact Nat.le_succ_of_le (h6 p x g1 g2)
theorem WF.tel {σ : SS} {k : Nat} (h : WF σ) : WF (telS σ k) := h
theorem WF.car {σ : SS} {s : Nat} {cm : Cm} {amt : Int32} (h : WF σ) (hs : s < 8) (ok : okCm cm) : WF (carS σ s cm amt).1 := by
  unfold carS hapS
  repeat' split
  · exact WF.tel ((h.com hs (by omega)).com ok.2.2.2.2.1 (by omega))
  · exact WF.tel (h.com hs ok.1)
  · exact h
  · exact h.tel
theorem carS_len {σ : SS} {s : Nat} {cm : Cm} {amt : Int32} : (zL σ).length ≤ (zL (carS σ s cm amt).1).length := by
  unfold carS hapS
  repeat' split
  · show _ ≤ (zL (comS (comS σ s 6 amt _) _ 7 amt _)).length
    rw [comS_len, comS_len]
    omega
  · show _ ≤ (zL (comS σ s cm.1 amt 0)).length
    rw [comS_len]
    omega
  · exact Nat.le_refl _
  · exact Nat.le_refl _
theorem WF.ask {σ : SS} {s n : Nat} {ex : Int32} {cm : Cm} (h : WF σ) (hs : s < 8) (ok : okCm cm) : WF (askS σ s ex n cm).1 := by
  unfold askS
  split
  · exact h.tel
  · split
    · dsimp only
      split
      · rename_i q
        have hc := h.car (amt := z32 cm.2.1) hs ok
        obtain ⟨h1, h2, h3, h4, h5, h6, h7⟩ := hc
        refine ⟨h1, h2, h3, ?_, h5, h6, h7⟩
        show updF _ n _ 0 = 0
        rw [updF_ne (by omega)]
        exact h4
      · exact h.car hs ok
    · exact h.tel
theorem WF.tried {σ : SS} {c s v : Nat} {fg : Bool} {cm : Cm} (h : WF σ) (hs : s < 8) (ok : okCm cm) : WF (tryS σ c s v fg cm).1 := by
  unfold tryS
  split
  · dsimp only
    split
    · exact h.car (amt := z32 cm.2.1) hs ok
    · exact h.car hs ok
  · exact h.tel
theorem WF.carL : ∀ {l : List LN} {σ : SS}, WF σ → (∀ x ∈ l, okLn x) → WF (carL σ l) := by
  intro l
  induction l with
  | nil => intro σ h _; exact h
  | cons x l ih =>
    intro σ h ok
    have hx := ok x List.mem_cons_self
    exact ih (h.car (amt := z32 x.2.2.1) hx.1 hx.2) (fun y hy => ok y (List.mem_cons_of_mem _ hy))
theorem WF.bat {σ : SS} {l : List LN} (h : WF σ) (ok : ∀ x ∈ l, okLn x) : WF (batS σ l).1 := by
  unfold batS
  repeat' split
  · exact h.tel
  · exact h
  · exact h.carL ok
theorem WF.upc {σ : SS} {k : Nat} {a b : Tx} (h : WF σ) : WF (upcS σ k a b).1 := by
  unfold upcS
  split
  · obtain ⟨h1, h2, h3, h4, h5, h6, h7⟩ := h
    exact ⟨fun e he => (h1 e he).up, h2, h3, h4, h5, h6, h7⟩
  · exact h
theorem setPJ_P {σ : SS} {w p w2 p2 : Nat} {x : Option PJ} : zP (setPJ σ w p x) w2 p2 = if w2 = w ∧ p2 = p then x else zP σ w2 p2 := rfl
theorem WF.setP {σ : SS} {w p : Nat} {x : Option PJ} (h : WF σ) (hx : ∀ y, x = some y → jP y ≤ (zL σ).length) : WF (setPJ σ w p x) := by
  obtain ⟨h1, h2, h3, h4, h5, h6, h7⟩ := h
  refine ⟨h1, h2, h3, h4, fun w2 p2 y g1 g2 g3 => ?_, h6, h7⟩
  rw [setPJ_P] at g3
  by_cases e : w2 = w ∧ p2 = p
  · rw [if_pos e] at g3
    exact hx y g3
  · rw [if_neg e] at g3
    exact h5 w2 p2 y g1 g2 g3
theorem WF.wD {σ : SS} {x : Nat → Int32} (h : WF σ) : WF (wD σ x) := h
theorem dlv_le {C : CF} {L : List EV} : ∀ (n p : Nat) (x : PJ) (D : Nat → Int32) (h : Nat), 1 ≤ p → jP x ≤ L.length → jP (dlv C L n p x D h).1 ≤ L.length := by
  intro n
  induction n with
  | zero => intro p x D h _ hx; exact hx
  | succ n ih =>
    intro p x D h hp hx
    unfold dlv
    split
    · exact hx
    · rename_i e he
      have hl := lt_of_get he
      split
      · exact hx
      · split
        · exact ih _ _ _ _ (by omega) hx
        · exact ih _ _ _ _ (by omega) (by show p ≤ L.length; omega)
theorem WF.setQS {σ : SS} {p : Nat} {x : QL} (h : WF σ) (hx : qlP x ≤ (zL σ).length) : WF (setQS σ p x) := by
  obtain ⟨h1, h2, h3, h4, h5, h6, h7⟩ := h
  refine ⟨h1, h2, h3, h4, h5, fun p2 y g1 g2 => ?_, h7⟩
  have g2 : updF (zQ σ) p (some x) p2 = some y := g2
  by_cases e : p2 = p
  · rw [e, updF_eq] at g2
    cases g2
    exact hx
  · rw [updF_ne e] at g2
    exact h6 p2 y g1 g2
theorem hnd_len {σ : SS} {x : QL} {e : EV} : (zL σ).length ≤ (zL (hndS σ x e).1).length := by
  unfold hndS
  repeat' split
  · exact carS_len
  · exact carS_len
  · exact carS_len
  · exact Nat.le_refl _
theorem hnd_K {σ : SS} {x : QL} {e : EV} : qlK (hndS σ x e).2.1 = qlK x := by
  unfold hndS
  repeat' split
  all_goals rfl
theorem WF.hnd {σ : SS} {x : QL} {e : EV} (h : WF σ) (he : eS e < 8) (ok : okCm (qlK x)) : WF (hndS σ x e).1 := by
  unfold hndS
  repeat' split
  · exact h.car he ok
  · exact h.car he ok
  · exact h.car he ok
  · exact h
theorem WF.ran : ∀ (n : Nat) {σ : SS} {x : QL} (m : Nat), WF σ → okCm (qlK x) → qlP x ≤ (zL σ).length → WF (ranS n σ x m).1 ∧ qlP (ranS n σ x m).2.1 ≤ (zL (ranS n σ x m).1).length := by
  intro n
  induction n with
  | zero => intro σ x m h _ hp; exact ⟨h, hp⟩
  | succ n ih =>
    intro σ x m h ok hp
    unfold ranS
    split
    · exact ⟨h, hp⟩
    · rename_i e he
      have hoe := h.1 e (List.mem_of_getElem? he)
      have hl := lt_of_get he
      have hw := h.hnd (x := x) hoe.1 ok
      have hn := hnd_len (σ := σ) (x := x) (e := e)
      split
      · exact ih (m + 1) hw (by show okCm (qlK (hndS σ x e).2.1); rw [hnd_K]; exact ok) (by show qlP x + 1 ≤ _; omega)
      · refine ⟨hw, ?_⟩
        dsimp only
        rw [(hndS_ok (x := x) h.1 hoe.1 ok).2.2]
        omega
def WT (τ : ST) : Prop := WF (tS τ) ∧ ∀ κ, tI τ = some κ → WF κ
theorem rng0 {x : Int32} {m : Nat} (hm : m < 1000000) (h : 0 ≤ x ∧ x ≤ z32 (m : Int)) : aN x ≤ m := by
  obtain ⟨n, rfl, hn⟩ := rng hm h
  rw [aN_z (by omega)]
  exact hn
section
variable {τ : ST}
theorem allP_inl {α : Type} {T : Tx} {r : PR α} {a : α} (h : allP T r = .inl a) : r = .inl (a, []) := by
  rcases r with ⟨b, s⟩ | m
  · cases s with
    | nil => cases h; rfl
    | cons x s => cases h
  · cases h
theorem w_feed (h : WT τ) (c : Int32) : WT (S_feed τ c).1 := by
  unfold S_feed
  repeat' split
  all_goals exact h
theorem w_ask (h : WT τ) (hT : (tT τ).length ≤ 160) (s ex n : Int32) : WT (S_ask τ s ex n).1 := by
  unfold S_ask
  split
  · rename_i q
    split
    · exact h
    · rename_i cm e
      have e2 := allP_inl e
      exact ⟨h.1.ask (by have := rng0 (m := 7) (by omega) q.1; omega) (cmP_wf hT e2).1, h.2⟩
  · exact h
theorem w_attempt (h : WT τ) (hT : (tT τ).length ≤ 160) (hs : ∀ c s v, c < 4 → zE (tS τ) c = some (s, v) → s < 8) (c w : Int32) : WT (S_attempt τ c w).1 := by
  unfold S_attempt
  split
  · rename_i q
    split
    · exact h
    · rename_i s v e
      have s8 := hs _ s v (by have := rng0 (m := 3) (by omega) q.1; omega) e
      split
      · exact h
      · rename_i cm e2
        have e3 := allP_inl e2
        exact ⟨h.1.tried s8 (cmP_wf hT e3).1, h.2⟩
  · exact h
theorem w_batch (h : WT τ) (hT : (tT τ).length ≤ 160) : WT (S_batch τ).1 := by
  unfold S_batch
  split
  · exact h
  · rename_i l e
    have e2 := allP_inl e
    exact ⟨h.1.bat (fun x hx => (lnsP_wf 40 [] _ l [] hT (fun x hx => by cases hx) e2 x hx).1), h.2⟩
theorem w_foresee (h : WT τ) (s w : Int32) : WT (S_foresee τ s w).1 := by
  unfold S_foresee
  repeat' split
  all_goals exact h
theorem w_upcast (h : WT τ) : WT (S_upcast τ).1 := by
  unfold S_upcast
  split
  · exact h
  · exact ⟨h.1.upc, h.2⟩
theorem w_watch (h : WT τ) (s w : Int32) : WT (S_watch τ s w).1 := by
  unfold S_watch
  repeat' split
  all_goals exact h
theorem w_snap (h : WT τ) (s : Int32) : WT (S_snap τ s).1 := by
  unfold S_snap
  split
  all_goals exact h
theorem w_every (h : WT τ) (n : Int32) : WT (S_every τ n).1 := by
  unfold S_every
  split
  · rename_i q
    obtain ⟨⟨h1, h2, h3, h4, h5, h6, h7⟩, h8⟩ := h
    exact ⟨⟨h1, h2, rng0 (m := 20) (by omega) q, h4, h5, h6, h7⟩, h8⟩
  · exact h
theorem w_see (h : WT τ) (c s : Int32) : WT (S_see τ c s).1 := by
  unfold S_see
  split
  all_goals exact h
theorem w_harmless (h : WT τ) : WT (S_harmless τ).1 := by
  obtain ⟨⟨h1, h2, h3, h4, h5, h6, h7⟩, h8⟩ := id h
  unfold S_harmless
  split
  · exact ⟨⟨h1, h2, h3, h4, h5, h6, 0, by omega, rfl⟩, h8⟩
  · split
    · exact h
    · rename_i m e
      exact ⟨⟨h1, h2, h3, h4, h5, h6, kdP_m (allP_inl e)⟩, h8⟩
theorem w_project (h : WT τ) (p : Int32) : WT (S_project τ p).1 := by
  unfold S_project
  split
  · split
    · exact h
    · exact ⟨(h.1.setP (fun y e => by cases e; exact Nat.zero_le _)).setP (fun y e => by cases e), h.2⟩
  · exact h
theorem w_rebuild (h : WT τ) (p : Int32) : WT (S_rebuild τ p).1 := by
  unfold S_rebuild
  repeat' split
  · exact h
  · exact ⟨h.1.setP (fun y e => by cases e; exact Nat.zero_le _), h.2⟩
  · exact h
  · exact ⟨h.1.setP (fun y e => by cases e; exact Nat.zero_le _), h.2⟩
  · exact h
theorem w_swap (h : WT τ) (p : Int32) : WT (S_swap τ p).1 := by
  unfold S_swap
  split
  · rename_i q
    have hp := rng0 (m := 3) (by omega) q
    split
    · exact h
    · rename_i y e
      have hy := h.1.2.2.2.2.1 1 _ y (by omega) (by omega) e
      have go : WT (tT τ, setPJ (setPJ (tS τ) 1 (aN p) none) 0 (aN p) (some y), tI τ) := ⟨WF.setP (h.1.setP (fun y e => by cases e)) (fun y e => by cases e; exact hy), h.2⟩
      split
      · exact go
      · split
        · exact go
        · exact h
  · exact h
theorem w_deliver (h : WT τ) (p w f n : Int32) : WT (S_deliver τ p w f n).1 := by
  unfold S_deliver
  split
  · rename_i q
    have hp := rng0 (m := 3) (by omega) q.1
    have hw := rng0 (m := 1) (by omega) q.2.1
    split
    · exact h
    · rename_i x e
      have hx := h.1.2.2.2.2.1 _ _ x (by omega) (by omega) e
      have hf : 1 ≤ aN f := by
        have hf : ¬ f < z32 1 := q.2.2.1
        rw [lt_lit (by omega) (by omega)] at hf
        unfold aN
        omega
      exact ⟨(h.1.setP (fun y e => by cases e; exact dlv_le _ _ _ _ _ hf hx)).wD, h.2⟩
  · exact h
theorem w_policy (h : WT τ) (p : Int32) : WT (S_policy τ p).1 := by
  unfold S_policy
  split
  · split
    · exact h
    · exact ⟨h.1.setQS (Nat.le_refl _), h.2⟩
  · exact h
theorem w_run (h : WT τ) (hk : ∀ p x, p < 4 → zQ (tS τ) p = some x → okCm (qlK x)) (p n : Int32) : WT (S_run τ p n).1 := by
  unfold S_run
  split
  · rename_i q
    have hp := rng0 (m := 3) (by omega) q.1
    split
    · exact h
    · rename_i x e
      obtain ⟨g1, g2⟩ := h.1.ran (x := x) (aN n) 0 (hk _ x (by omega) e) (h.1.2.2.2.2.2.1 _ x (by omega) e)
      exact ⟨g1.setQS g2, h.2⟩
  · exact h
end
