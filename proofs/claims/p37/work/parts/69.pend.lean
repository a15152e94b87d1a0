/-! Projections as the fold of all has them. -/
theorem truV_P {C : CF} {L : List EV} : ∀ (n p : Nat) (x : PJ), jP x = p → p + n ≤ L.length → jP (truV C L n (p + 1) x) = p + n := by
  intro n
  induction n with
  | zero => exact fun p x h _ => h
  | succ n ih =>
    intro p x h hl
    unfold truV
    rw [Nat.add_sub_cancel]
    cases he : L[p]? with
    | none =>
      have := List.getElem?_eq_none_iff.mp he
      omega
    | some e =>
      have := ih (p + 1) (hdlE C x e (p + 1)) hdlE_t.2.2.2.2 (by omega)
      exact this.trans (by omega)
/-- its rows are what the fold of all that it has handled gives -/
def TRU (C : CF) (L : List EV) (y : PJ) : Prop := jR y = jR (truV C L (jP y) 1 (newJ y))
theorem newJ_T {x y : PJ} (h : TXS x y) : newJ y = newJ x := by
  show (jF y, jM y, jY y, jC y, (fun _ => none : Nat → Option Int32), 0) = (jF x, jM x, jY x, jC x, (fun _ => none), 0)
  rw [h.1, h.2.1, h.2.2.1, h.2.2.2]
theorem newJ_2 {x : PJ} : newJ (newJ x) = newJ x := rfl
/-- delivered from the first on, m of them -/
theorem tru_of {C : CF} {L : List EV} {x : PJ} {m : Nat} (hc : jC x = [1]) (hm : m ≤ L.length) : TRU C L (truV C L m 1 (newJ x)) ∧ jP (truV C L m 1 (newJ x)) = m ∧ PJI (truV C L m 1 (newJ x)) (L.take m) ∧ TXS x (truV C L m 1 (newJ x)) := by
  have h1 := truV_P (C := C) (L := L) m 0 (newJ x) rfl (by omega)
  rw [Nat.zero_add, Nat.zero_add] at h1
  obtain ⟨h2, h3⟩ := truV_ok (C := C) (L := L) m 0 (newJ x) (newJ_I hc) (by omega)
  rw [Nat.zero_add, Nat.zero_add] at h2
  rw [Nat.zero_add] at h3
  have h4 : TXS x (truV C L m 1 (newJ x)) := ⟨h3.1, h3.2.1, h3.2.2.1, h3.2.2.2⟩
  refine ⟨?_, h1, h2, h4⟩
  unfold TRU
  rw [h1, newJ_T h4]
theorem dlv_all {C : CF} {L : List EV} {x : PJ} {D : Nat → Int32} {n : Nat} (hc : jC x = [1]) : (dlv C L n 1 (newJ x) D 0).1 = truV C L (min n L.length) 1 (newJ x) ∧ (dlv C L n 1 (newJ x) D 0).2.2 = min n L.length := by
  obtain ⟨h1, h2⟩ := dlv_tru (C := C) (L := L) n (newJ x) D 0
  have e0 : jP (newJ x) = 0 := rfl
  rw [e0] at h1 h2
  refine ⟨h1.trans ?_, by rw [h2]; omega⟩
  by_cases q : n ≤ L.length
  · rw [Nat.min_eq_left q]
  · exact truV_stop n (min n L.length) 1 (newJ x) (by omega) (by omega) (by omega)
def valR (r : Option Int32) : Int32 := match r with
  | none => VD
  | some v => v
section
variable {τ : ST}
theorem look_3 {p w : Nat} {x : PJ} (hp : p < 4) (hw : w < 2) (hx : zP (tS τ) w p = some x) : S_look τ (z32 (p : Int)) (z32 (w : Int)) 3 = if rsame (jR x) (jR (truV (zC (tS τ)) (zL (tS τ)) (jP x) 1 (newJ x))) (List.range' 0 9) = 0 then 0 else 1 := by
  have hp3 : (0 : Int32) ≤ z32 (p : Int) ∧ z32 (p : Int) ≤ 3 := rngN (a := 0) (c := 3) (by omega) (by omega) (by omega)
  have hw3 : (0 : Int32) ≤ z32 (w : Int) ∧ z32 (w : Int) ≤ 1 := rngN (a := 0) (c := 1) (by omega) (by omega) (by omega)
  unfold S_look
  rw [if_pos ⟨hp3, hw3, by decide, by decide⟩, aN_z (n := p) (by omega), aN_z (n := w) (by omega), hx]
  dsimp only
  rw [if_neg (by decide), if_neg (by decide), if_neg (by decide), if_pos rfl]
theorem look_T {p w : Nat} {x : PJ} (hp : p < 4) (hw : w < 2) (hx : zP (tS τ) w p = some x) (ht : TRU (zC (tS τ)) (zL (tS τ)) x) : S_look τ (z32 (p : Int)) (z32 (w : Int)) 3 = 1 := by
  rw [look_3 hp hw hx, rsame_1 _ (fun k _ => by rw [← show jR x = _ from ht]), if_neg (by decide)]
theorem row_eq {p w k : Nat} {x : PJ} (hp : p < 4) (hw : w < 2) (hk : k < 9) (hx : zP (tS τ) w p = some x) : S_row τ (z32 (p : Int)) (z32 (w : Int)) (z32 (k : Int)) = valR (jR x k) := by
  have hp3 : (0 : Int32) ≤ z32 (p : Int) ∧ z32 (p : Int) ≤ 3 := rngN (a := 0) (c := 3) (by omega) (by omega) (by omega)
  have hw3 : (0 : Int32) ≤ z32 (w : Int) ∧ z32 (w : Int) ≤ 1 := rngN (a := 0) (c := 1) (by omega) (by omega) (by omega)
  have hk3 : (0 : Int32) ≤ z32 (k : Int) ∧ z32 (k : Int) ≤ 8 := rngN (a := 0) (c := 8) (by omega) (by omega) (by omega)
  unfold S_row
  rw [if_pos ⟨hp3, hw3, hk3⟩, aN_z (n := p) (by omega), aN_z (n := w) (by omega), aN_z (n := k) (by omega), hx]
  dsimp only
  cases jR x k <;> rfl
end
/-- a count's rows are of what it has handled, whatever the way -/
theorem tru_cnt {C : CF} {L : List EV} {x : PJ} (hf : jF x = 1) (hi : PJI x (L.take (jP x))) (hl : jP x ≤ L.length) : TRU C L x := by
  obtain ⟨-, -, h2, h3⟩ := tru_of (C := C) (L := L) (x := x) (m := jP x) hi.1 hl
  funext k
  rw [hi.2.2 hf k, h2.2.2 (h3.1.trans hf) k, h3.2.1, h3.2.2.1]
/-- two that handled the same: the same keys -/
theorem same_keys {x y : PJ} {K : List EV} (hx : PJI x K) (hy : PJI y K) (ht : TXS x y) (k : Nat) : (jR x k).isSome = (jR y k).isSome := by
  rw [hx.2.1 k, hy.2.1 k, ht.2.1, ht.2.2.1]
theorem valR_eq {a b : Option Int32} (h : a.isSome = b.isSome) : valR a = valR b ↔ a = b := by
  cases a with
  | none =>
    cases b with
    | none => exact ⟨fun _ => rfl, fun _ => rfl⟩
    | some b => cases h
  | some a =>
    cases b with
    | none => cases h
    | some b => exact ⟨fun e => congrArg some e, fun e => by cases e; rfl⟩
theorem key8 {x : PJ} {K : List EV} (hx : PJI x K) (hy : jY x = 0) (hK : ∀ e ∈ K, eS e < 8) : jR x 8 = none := by
  have := hx.2.1 8
  rw [hy] at this
  have e : (K.any fun e => hit (jM x) 0 e 8) = false := by
    rw [List.any_eq_false]
    intro e he q
    unfold hit at q
    rw [if_pos rfl] at q
    have := hK e he
    simp only [Bool.and_eq_true, decide_eq_true_eq] at q
    omega
  rw [e] at this
  cases hr : jR x 8 with
  | none => rfl
  | some v => rw [hr] at this; cases this
theorem hit_511 {e : EV} {k : Nat} (he : eK e < 9) : hit 511 1 e k = decide (eK e = k) := by
  have h1 : ∀ j : Nat, j < 9 → ((511 : Int32) >>> z32 (j : Int)) &&& 1 ≠ 0 := by decide +kernel
  unfold hit
  rw [decide_eq_false (h1 (eK e) he), if_neg (by decide), if_pos rfl]
  rfl
