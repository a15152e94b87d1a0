/-! The property: what a projection has, by the events that it has handled. -/
def hit (m : Int32) (y : Nat) (e : EV) (k : Nat) : Bool := !decide ((m >>> z32 (eK e : Int)) &&& 1 = 0) && decide ((if y = 0 then eS e else if y = 1 then eK e else 0) = k)
theorem val1 {env : Nat → Int32} : valV env [1] = 1 := by
  show (stV env 1 []).headD 0 = 1
  unfold stV
  rw [if_pos (by decide), if_pos (by decide)]
  rfl
theorem hdlE_t {C : CF} {x : PJ} {e : EV} {p : Nat} : jF (hdlE C x e p) = jF x ∧ jM (hdlE C x e p) = jM x ∧ jY (hdlE C x e p) = jY x ∧ jC (hdlE C x e p) = jC x ∧ jP (hdlE C x e p) = p := by
  unfold hdlE hdl
  repeat' split
  all_goals exact ⟨rfl, rfl, rfl, rfl, rfl⟩
theorem hdlE_R {C : CF} {x : PJ} {e : EV} {p : Nat} (hc : jC x = [1]) (k : Nat) : jR (hdlE C x e p) k = if hit (jM x) (jY x) e k = true then some (rowV (jF x) (jR x k) (rdE C e).1) else jR x k := by
  unfold hdlE hdl
  rw [hc, val1]
  unfold hit
  by_cases h0 : (jM x >>> z32 (eK e : Int)) &&& 1 = 0
  · rw [if_pos h0, decide_eq_true h0]
    rfl
  · rw [if_neg h0, if_neg (by decide), decide_eq_false h0]
    show updF (jR x) (keyV x (eK e) (eS e)) (some (rowV (jF x) (jR x (keyV x (eK e) (eS e))) (rdE C e).1)) k = _
    have ek : (if jY x = 0 then eS e else if jY x = 1 then eK e else 0) = keyV x (eK e) (eS e) := rfl
    rw [ek]
    by_cases hk : keyV x (eK e) (eS e) = k
    · subst hk
      rw [decide_eq_true rfl]
      exact updF_eq
    · rw [decide_eq_false hk]
      exact updF_ne (fun q => hk q.symm)
/-- rows of what has been handled -/
def PJI (x : PJ) (K : List EV) : Prop := jC x = [1] ∧ (∀ k, (jR x k).isSome = K.any (fun e => hit (jM x) (jY x) e k)) ∧ (jF x = 1 → ∀ k, jR x k = if K.countP (fun e => hit (jM x) (jY x) e k) = 0 then none else some (z32 ((K.countP (fun e => hit (jM x) (jY x) e k) : Nat) : Int)))
theorem PJI.step {C : CF} {x : PJ} {K : List EV} {e : EV} {p : Nat} (h : PJI x K) : PJI (hdlE C x e p) (K ++ [e]) := by
  obtain ⟨hc, h1, h2⟩ := h
  obtain ⟨t1, t2, t3, t4, -⟩ := hdlE_t (C := C) (x := x) (e := e) (p := p)
  refine ⟨t4.trans hc, fun k => ?_, fun hf k => ?_⟩
  · rw [t2, t3, hdlE_R hc, List.any_append]
    by_cases q : hit (jM x) (jY x) e k = true
    · rw [if_pos q]
      simp [q]
    · rw [if_neg q, h1 k]
      simp [q]
  · rw [t1] at hf
    rw [t2, t3, hdlE_R hc, List.countP_append]
    have hk := h2 hf k
    by_cases q : hit (jM x) (jY x) e k = true
    · rw [if_pos q, List.countP_cons_of_pos (p := fun e => hit (jM x) (jY x) e k) (l := []) q, List.countP_nil, if_neg (by omega), hk, hf]
      by_cases z : K.countP (fun e => hit (jM x) (jY x) e k) = 0
      · rw [if_pos z, z]
        rfl
      · rw [if_neg z]
        show some (_ + z32 1) = _
        rw [z32_add]
        rfl
    · rw [if_neg q, List.countP_cons_of_neg (p := fun e => hit (jM x) (jY x) e k) (l := []) q, List.countP_nil, Nat.add_zero]
      exact hk
theorem PJI.nil {x : PJ} (hc : jC x = [1]) (hr : ∀ k, jR x k = none) : PJI x [] := ⟨hc, fun k => by rw [hr]; rfl, fun _ k => by rw [hr]; rfl⟩
theorem take_s {α : Type} {L : List α} {i : Nat} {e : α} (h : L[i]? = some e) : L.take (i + 1) = L.take i ++ [e] := by
  rw [List.take_add_one, h]
  rfl
def TXS (x y : PJ) : Prop := jF y = jF x ∧ jM y = jM x ∧ jY y = jY x ∧ jC y = jC x
theorem TXS.rf {x : PJ} : TXS x x := ⟨rfl, rfl, rfl, rfl⟩
theorem TXS.tr {x y z : PJ} (h : TXS x y) (h2 : TXS y z) : TXS x z := ⟨h2.1.trans h.1, h2.2.1.trans h.2.1, h2.2.2.1.trans h.2.2.1, h2.2.2.2.trans h.2.2.2⟩
theorem hdlE_T {C : CF} {x : PJ} {e : EV} {p : Nat} : TXS x (hdlE C x e p) := ⟨hdlE_t.1, hdlE_t.2.1, hdlE_t.2.2.1, hdlE_t.2.2.2.1⟩
/-- what is delivered -/
theorem dlv_ok {C : CF} {L : List EV} : ∀ (n p : Nat) (x : PJ) (D : Nat → Int32) (h : Nat), 1 ≤ p → PJI x (L.take (jP x)) → jP x ≤ L.length →
    ∃ c : Nat, (dlv C L n p x D h).2.2 = h + c ∧ jP (dlv C L n p x D h).1 = jP x + c ∧ (dlv C L n p x D h).2.1 4 = D 4 + z32 (c : Int) ∧ PJI (dlv C L n p x D h).1 (L.take (jP x + c)) ∧ TXS x (dlv C L n p x D h).1 ∧ jP x + c ≤ L.length ∧ c ≤ n := by
  have z0 : ∀ v : Int32, v = v + z32 ((0 : Nat) : Int) := fun v => (Int32.add_zero v).symm
  intro n
  induction n with
  | zero => exact fun p x D h _ hx hl => ⟨0, rfl, rfl, z0 _, hx, TXS.rf, hl, Nat.le_refl _⟩
  | succ n ih =>
    intro p x D h hp hx hl
    unfold dlv
    split
    · exact ⟨0, rfl, rfl, z0 _, hx, TXS.rf, hl, Nat.zero_le _⟩
    · rename_i e he
      split
      · exact ⟨0, rfl, rfl, (updF_ne (f := D) (s := 6) (t := 4) (x := D 6 + 1) (by decide)).trans (z0 _), hx, TXS.rf, hl, Nat.zero_le _⟩
      · split
        · obtain ⟨c, h1, h2, h3, h4, h5, h6, h7⟩ := ih (p + 1) x (updF D 5 (D 5 + 1)) h (by omega) hx hl
          exact ⟨c, h1, h2, h3.trans (by rw [updF_ne (by decide)]), h4, h5, h6, by omega⟩
        · obtain rfl : p = jP x + 1 := by omega
          rw [Nat.add_sub_cancel] at he
          have hlt := lt_of_get he
          have hP : jP (hdlE C x e (jP x + 1)) = jP x + 1 := hdlE_t.2.2.2.2
          obtain ⟨c, h1, h2, h3, h4, h5, h6, h7⟩ := ih (jP x + 1 + 1) (hdlE C x e (jP x + 1)) (updF D 4 (D 4 + 1)) (h + 1) (by omega) (by rw [hP, take_s he]; exact hx.step) (by rw [hP]; omega)
          rw [hP] at h2 h4 h6
          refine ⟨c + 1, by omega, by omega, ?_, by rw [show jP x + (c + 1) = jP x + 1 + c by omega]; exact h4, hdlE_T.tr h5, by omega, by omega⟩
          rw [h3, updF_eq]
          show D 4 + z32 1 + _ = _
          rw [Int32.add_assoc, z32_add]
          congr 2
          omega
/-- in order from the next on: all that there are, as the fold has them -/
theorem dlv_tru {C : CF} {L : List EV} : ∀ (n : Nat) (x : PJ) (D : Nat → Int32) (h : Nat), (dlv C L n (jP x + 1) x D h).1 = truV C L n (jP x + 1) x ∧ (dlv C L n (jP x + 1) x D h).2.2 = h + min n (L.length - jP x) := by
  intro n
  induction n with
  | zero => exact fun x D h => ⟨rfl, by rw [Nat.zero_min]; rfl⟩
  | succ n ih =>
    intro x D h
    unfold dlv truV
    rw [Nat.add_sub_cancel]
    cases he : L[jP x]? with
    | none =>
      have := List.getElem?_eq_none_iff.mp he
      exact ⟨rfl, by dsimp only; omega⟩
    | some e =>
      dsimp only
      rw [if_neg (by omega), if_neg (by omega)]
      have hlt := lt_of_get he
      have hP : jP (hdlE C x e (jP x + 1)) = jP x + 1 := hdlE_t.2.2.2.2
      obtain ⟨h1, h2⟩ := ih (hdlE C x e (jP x + 1)) (updF D 4 (D 4 + 1)) (h + 1)
      rw [hP] at h1 h2
      exact ⟨h1, by rw [h2]; omega⟩
theorem truV_stop {C : CF} {L : List EV} : ∀ (n m p : Nat) (x : PJ), 1 ≤ p → L.length ≤ p - 1 + n → L.length ≤ p - 1 + m → truV C L n p x = truV C L m p x := by
  intro n
  induction n with
  | zero =>
    intro m p x hp h1 h2
    cases m with
    | zero => rfl
    | succ m =>
      unfold truV
      rw [List.getElem?_eq_none (by omega)]
  | succ n ih =>
    intro m p x hp h1 h2
    cases m with
    | zero =>
      unfold truV
      rw [List.getElem?_eq_none (by omega)]
    | succ m =>
      unfold truV
      cases he : L[p - 1]? with
      | none => rfl
      | some e => exact ih m (p + 1) _ (by omega) (by omega) (by omega)
theorem truV_ok {C : CF} {L : List EV} : ∀ (n p : Nat) (x : PJ), PJI x (L.take p) → p + n ≤ L.length → PJI (truV C L n (p + 1) x) (L.take (p + n)) ∧ TXS x (truV C L n (p + 1) x) := by
  intro n
  induction n with
  | zero => exact fun p x hx _ => ⟨hx, TXS.rf⟩
  | succ n ih =>
    intro p x hx hl
    unfold truV
    rw [Nat.add_sub_cancel]
    cases he : L[p]? with
    | none =>
      have := List.getElem?_eq_none_iff.mp he
      omega
    | some e =>
      obtain ⟨h1, h2⟩ := ih (p + 1) (hdlE C x e (p + 1)) (by rw [take_s he]; exact hx.step) (by omega)
      refine ⟨?_, hdlE_T.tr h2⟩
      rw [show p + (n + 1) = p + 1 + n by omega]
      exact h1
theorem rsame_1 {r r2 : Nat → Option Int32} : ∀ (l : List Nat), (∀ k ∈ l, r k = r2 k) → rsame r r2 l = 1
  | [], _ => rfl
  | k :: l, h => by
    unfold rsame
    rw [if_pos (h k List.mem_cons_self)]
    exact rsame_1 l (fun j hj => h j (List.mem_cons_of_mem _ hj))
theorem rsame_0 {r r2 : Nat → Option Int32} : ∀ (l : List Nat), (∃ k ∈ l, r k ≠ r2 k) → rsame r r2 l = 0
  | [], h => by
    obtain ⟨k, hk, -⟩ := h
    cases hk
  | j :: l, h => by
    unfold rsame
    obtain ⟨k, hk, hn⟩ := h
    by_cases q : r j = r2 j
    · rw [if_pos q]
      rcases List.mem_cons.mp hk with rfl | hk
      · exact absurd q hn
      · exact rsame_0 l ⟨k, hk, hn⟩
    · rw [if_neg q]
theorem newJ_I {x : PJ} (h : jC x = [1]) : PJI (newJ x) [] := PJI.nil h (fun _ => rfl)
