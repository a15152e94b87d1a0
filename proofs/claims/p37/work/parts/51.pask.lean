/-! The property: askings, batches, policies. -/
/-- the log has grown; formats, projections, what is handled, policies are as they were -/
def GRW (σ σ2 : SS) : Prop := (∃ K, zL σ2 = zL σ ++ K) ∧ zC σ2 = zC σ ∧ zP σ2 = zP σ ∧ zQ σ2 = zQ σ ∧ zD σ2 4 = zD σ 4
theorem GRW.rf {σ : SS} : GRW σ σ := ⟨⟨[], (List.append_nil _).symm⟩, rfl, rfl, rfl, rfl⟩
theorem GRW.tr {a b c : SS} (h : GRW a b) (h2 : GRW b c) : GRW a c := by
  obtain ⟨⟨K, k1⟩, a1, a2, a3, a4⟩ := h
  obtain ⟨⟨K2, k2⟩, b1, b2, b3, b4⟩ := h2
  exact ⟨⟨K ++ K2, by rw [k2, k1, List.append_assoc]⟩, b1.trans a1, b2.trans a2, b3.trans a3, b4.trans a4⟩
theorem GRW.tel {σ : SS} {k : Nat} (hk : k ≠ 4) : GRW σ (telS σ k) := ⟨⟨[], (List.append_nil _).symm⟩, rfl, rfl, rfl, updF_ne (fun e => hk e.symm)⟩
theorem GRW.com {σ : SS} {s k : Nat} {a b : Int32} : GRW σ (comS σ s k a b) := ⟨⟨_, rfl⟩, rfl, rfl, rfl, rfl⟩
theorem GRW.hap {σ : SS} {s : Nat} {k : Cm} {amt : Int32} : GRW σ (hapS σ s k amt) := by
  unfold hapS
  split
  · exact GRW.com.tr GRW.com
  · exact GRW.com
theorem hap_len {σ : SS} {s : Nat} {k : Cm} {amt : Int32} : (zL (hapS σ s k amt)).length = (zL σ).length + evC k := by
  unfold hapS evC
  split
  · rw [comS_len, comS_len]
  · rw [comS_len]
theorem hap_A {σ : SS} {s : Nat} {k : Cm} {amt : Int32} : zA (hapS σ s k amt) = zA σ := by
  unfold hapS
  split <;> rfl
theorem com_v {σ : SS} {s k : Nat} {a b : Int32} : 0 < vrS (zL (comS σ s k a b)) s := by
  show 0 < vrS (zL σ ++ [evN σ s k a b]) s
  rw [vrS_snoc, if_pos (show eS (evN σ s k a b) = s from rfl)]
  omega
theorem com_v2 {σ : SS} {s k s2 : Nat} {a b : Int32} (h : 0 < vrS (zL σ) s2) : 0 < vrS (zL (comS σ s k a b)) s2 := by
  show 0 < vrS (zL σ ++ [_]) s2
  rw [vrS_snoc]
  omega
theorem hap_v {σ : SS} {s : Nat} {k : Cm} {amt : Int32} : 0 < vrS (zL (hapS σ s k amt)) s := by
  unfold hapS
  split
  · exact com_v2 com_v
  · exact com_v
theorem refV_v (f : Nat → S4) (s k t : Nat) (amt : Int32) : refV f s k t amt = 0 ∨ refV f s k t amt = 21 ∨ refV f s k t amt = 22 ∨ refV f s k t amt = 23 ∨ refV f s k t amt = 24 ∨ refV f s k t amt = 25 := by
  unfold refV
  repeat' split
  all_goals simp
theorem evC_12 (k : Cm) : 1 ≤ evC k ∧ evC k ≤ 2 := by
  unfold evC
  split <;> omega
/-- done: or nothing has come -/
theorem car_ok {σ : SS} {s : Nat} {k : Cm} {amt : Int32} : GRW σ (carS σ s k amt).1 ∧ zA (carS σ s k amt).1 = zA σ ∧
    ((0 < (carS σ s k amt).2 ∧ (zL (carS σ s k amt).1).length = (zL σ).length + evC k ∧ (carS σ s k amt).1 = telS (hapS σ s k amt) 0 ∧ refV (stF (zC σ) (zL σ)) s k.1 k.2.2.1 amt = 0 ∧ (zL σ).length + evC k ≤ 240) ∨
     ((carS σ s k amt).2 < 0 ∧ zL (carS σ s k amt).1 = zL σ ∧ ¬ (refV (stF (zC σ) (zL σ)) s k.1 k.2.2.1 amt = 0 ∧ (zL σ).length + evC k ≤ 240))) := by
  unfold carS
  by_cases h0 : refV (stF (zC σ) (zL σ)) s k.1 k.2.2.1 amt = 0
  · rw [if_pos h0]
    by_cases h1 : (zL σ).length + evC k ≤ 240
    · rw [if_pos h1]
      refine ⟨GRW.hap.tr (GRW.tel (by decide)), hap_A, Or.inl ⟨?_, hap_len, rfl, h0, h1⟩⟩
      have hv := hap_v (σ := σ) (s := s) (k := k) (amt := amt)
      have hl := vrS_le (L := zL (hapS σ s k amt)) (s := s)
      rw [hap_len] at hl
      show (0 : Int32) < z32 (vrS (zL (hapS σ s k amt)) s : Int)
      rw [z32_0, z32_lt (by omega) (by omega) (by omega) (by omega)]
      omega
    · rw [if_neg h1]
      exact ⟨GRW.rf, rfl, Or.inr ⟨(by decide : (-3 : Int32) < 0), rfl, fun q => h1 q.2⟩⟩
  · rw [if_neg h0]
    refine ⟨GRW.tel (by decide), rfl, Or.inr ⟨?_, rfl, fun q => h0 q.1⟩⟩
    show -(refV (stF (zC σ) (zL σ)) s k.1 k.2.2.1 amt) < 0
    rcases refV_v (stF (zC σ) (zL σ)) s k.1 k.2.2.1 amt with q | q | q | q | q | q
    · exact absurd q h0
    all_goals rw [q]; decide
/-- an asking by a number -/
theorem ask_ok {σ : SS} {s : Nat} {ex : Int32} {n : Nat} {cm : Cm} : GRW σ (askS σ s ex n cm).1 ∧
    ((0 < n ∧ 0 < zA σ n ∧ (askS σ s ex n cm).2 = zA σ n ∧ zL (askS σ s ex n cm).1 = zL σ ∧ zA (askS σ s ex n cm).1 = zA σ) ∨
     (¬ (0 < n ∧ 0 < zA σ n) ∧ (askS σ s ex n cm).2 ≠ 0 ∧ (¬ 0 < (askS σ s ex n cm).2 → zL (askS σ s ex n cm).1 = zL σ) ∧ (zL (askS σ s ex n cm).1).length ≤ (zL σ).length + 2 ∧
      zA (askS σ s ex n cm).1 = if 0 < n ∧ 0 < (askS σ s ex n cm).2 then updF (zA σ) n (askS σ s ex n cm).2 else zA σ)) := by
  unfold askS
  by_cases h0 : 0 < n ∧ 0 < zA σ n
  · rw [if_pos h0]
    exact ⟨GRW.tel (by decide), Or.inl ⟨h0.1, h0.2, rfl, rfl, rfl⟩⟩
  · rw [if_neg h0]
    by_cases h1 : ex = -1 ∨ ex = z32 (vrS (zL σ) s : Int)
    · rw [if_pos h1]
      obtain ⟨g1, g2, g3⟩ := car_ok (σ := σ) (s := s) (k := cm) (amt := z32 cm.2.1)
      have he := evC_12 cm
      dsimp only
      by_cases h2 : 0 < n ∧ 0 < (carS σ s cm (z32 cm.2.1)).2
      · rw [if_pos h2]
        refine ⟨⟨g1.1, g1.2.1, g1.2.2.1, g1.2.2.2.1, g1.2.2.2.2⟩, Or.inr ⟨h0, fun q => ?_, fun q => absurd h2.2 q, ?_, ?_⟩⟩
        · rw [q] at h2
          exact absurd h2.2 (by decide)
        · show (zL (carS σ s cm (z32 cm.2.1)).1).length ≤ _
          rcases g3 with q | q
          · omega
          · rw [q.2.1]
            omega
        · show updF (zA (carS σ s cm (z32 cm.2.1)).1) n _ = _
          rw [g2]
          exact (if_pos h2).symm
      · rw [if_neg h2]
        refine ⟨g1, Or.inr ⟨h0, fun q => ?_, fun q => ?_, ?_, g2.trans (if_neg h2).symm⟩⟩
        · rcases g3 with z | z
          · rw [q] at z
            exact absurd z.1 (by decide)
          · rw [q] at z
            exact absurd z.1 (by decide)
        · exact (g3.resolve_left (fun z => q z.1)).2.1
        · rcases g3 with q | q
          · omega
          · rw [q.2.1]
            omega
    · rw [if_neg h1]
      refine ⟨GRW.tel (by decide), Or.inr ⟨h0, (by decide : (-4 : Int32) ≠ 0), fun _ => rfl, Nat.le_add_right _ _, ?_⟩⟩
      rw [if_neg (fun q => absurd q.2 (by decide : ¬ (0 : Int32) < -4))]
      rfl
/-! batches: what was thought is what comes -/
theorem com_stF {σ : SS} {s k : Nat} {a b : Int32} : stF (zC (comS σ s k a b)) (zL (comS σ s k a b)) = updF (stF (zC σ) (zL σ)) s (chg k a (stF (zC σ) (zL σ) s)) := by
  show stF (zC σ) (zL σ ++ [evN σ s k a b]) = _
  rw [stF_snoc, rdE_new]
  rfl
theorem hap_stF {σ : SS} {x : LN} : stF (zC (hapS σ x.1 x.2 (z32 x.2.2.1))) (zL (hapS σ x.1 x.2 (z32 x.2.2.1))) = thkC (stF (zC σ) (zL σ)) x := by
  unfold hapS thkC
  by_cases h : x.2.1 = 6
  · rw [if_pos h, if_pos h, com_stF, com_stF]
  · rw [if_neg h, if_neg h, com_stF]
theorem thk_le {r : Nat} : ∀ (l : List LN) (f : Nat → S4) (t e : Nat), (thk r f l t e).1 ≤ t + l.length
  | [], _, t, _ => Nat.le_refl t
  | x :: l, f, t, e => by
    unfold thk
    have ih := thk_le (r := r) l (thkC f x) (t + 1) (e + evC x.2)
    repeat' split
    · rw [List.length_cons]
      omega
    · exact Nat.le_add_right _ _
    · exact Nat.le_add_right _ _
theorem thk_car {n0 : Nat} (h0 : n0 ≤ 240) : ∀ (l : List LN) (σ : SS) (t e : Nat), (zL σ).length = n0 + e → (thk (240 - n0) (stF (zC σ) (zL σ)) l t e).1 = t + l.length →
    (zL (carL σ l)).length = n0 + (thk (240 - n0) (stF (zC σ) (zL σ)) l t e).2.1 ∧ GRW σ (carL σ l) ∧ zA (carL σ l) = zA σ ∧ e + l.length ≤ (thk (240 - n0) (stF (zC σ) (zL σ)) l t e).2.1
  | [], σ, t, e, hl, _ => ⟨hl, GRW.rf, rfl, Nat.le_refl _⟩
  | x :: l, σ, t, e, hl, ht => by
    unfold thk at ht ⊢
    have he := evC_12 x.2
    by_cases q0 : refV (stF (zC σ) (zL σ)) x.1 x.2.1 x.2.2.2.1 (z32 x.2.2.1) = 0
    · rw [if_pos q0] at ht ⊢
      by_cases q1 : e + evC x.2 ≤ 240 - n0
      · rw [if_pos q1] at ht ⊢
        obtain ⟨g1, g2, g3⟩ := car_ok (σ := σ) (s := x.1) (k := x.2) (amt := z32 x.2.2.1)
        have hc := g3.resolve_right (fun q => q.2.2 ⟨q0, by omega⟩)
        have es : stF (zC (carS σ x.1 x.2 (z32 x.2.2.1)).1) (zL (carS σ x.1 x.2 (z32 x.2.2.1)).1) = thkC (stF (zC σ) (zL σ)) x := by
          rw [hc.2.2.1]
          exact hap_stF
        rw [← es] at ht ⊢
        obtain ⟨r1, r2, r3, r4⟩ := thk_car h0 l (carS σ x.1 x.2 (z32 x.2.2.1)).1 (t + 1) (e + evC x.2) (by rw [hc.2.1]; omega) (by rw [ht, List.length_cons]; omega)
        refine ⟨r1, g1.tr r2, r3.trans g2, ?_⟩
        rw [List.length_cons]
        omega
      · rw [if_neg q1] at ht
        rw [List.length_cons] at ht
        exact absurd ht (by show ¬ t = _; omega)
    · rw [if_neg q0] at ht
      rw [List.length_cons] at ht
      exact absurd ht (by show ¬ t = _; omega)
theorem bat_ok {σ : SS} {l : List LN} (hl : (zL σ).length ≤ 240) (hl2 : l.length ≤ 40) (hn : l ≠ []) : GRW σ (batS σ l).1 ∧ zA (batS σ l).1 = zA σ ∧
    ((∃ t : Nat, t ≤ 40 ∧ (batS σ l).2 = z32 (-300 - (t : Int)) ∧ zL (batS σ l).1 = zL σ) ∨ (∃ e : Nat, 0 < e ∧ (batS σ l).2 = z32 (e : Int) ∧ (zL (batS σ l).1).length = (zL σ).length + e)) := by
  unfold batS
  have hle := thk_le (r := 240 - (zL σ).length) l (stF (zC σ) (zL σ)) 0 0
  by_cases h : (thk (240 - (zL σ).length) (stF (zC σ) (zL σ)) l 0 0).1 < l.length
  · rw [if_pos h]
    dsimp only
    split
    · exact ⟨GRW.tel (by decide), rfl, Or.inl ⟨_, by omega, rfl, rfl⟩⟩
    · exact ⟨GRW.rf, rfl, Or.inl ⟨_, by omega, rfl, rfl⟩⟩
  · rw [if_neg h]
    obtain ⟨r1, r2, r3, r4⟩ := thk_car hl l σ 0 0 rfl (by omega)
    refine ⟨r2, r3, Or.inr ⟨_, ?_, rfl, r1⟩⟩
    have : 0 < l.length := List.length_pos_iff.mpr hn
    omega
/-! policies -/
theorem hnd_ok {σ : SS} {x : QL} {e : EV} (hk : (qlK x).1 ≠ 6) : GRW σ (hndS σ x e).1 ∧ zA (hndS σ x e).1 = zA σ ∧ qlK (hndS σ x e).2.1 = qlK x ∧ (zL (hndS σ x e).1).length ≤ (zL σ).length + 1 ∧ ((hndS σ x e).2.2 = false → zL (hndS σ x e).1 = zL σ) := by
  have he : evC (qlK x) = 1 := by
    unfold evC
    rw [if_neg hk]
  unfold hndS
  obtain ⟨g1, g2, g3⟩ := car_ok (σ := σ) (s := eS e) (k := qlK x) (amt := amtV (zC σ) (qlK x) e)
  rw [he] at g3
  have hle : (zL (carS σ (eS e) (qlK x) (amtV (zC σ) (qlK x) e)).1).length ≤ (zL σ).length + 1 := by
    rcases g3 with q | q
    · omega
    · rw [q.2.1]
      omega
  repeat' split
  · rename_i h
    rw [h] at g3
    refine ⟨g1, g2, rfl, hle, fun _ => (g3.resolve_left (fun q => absurd q.1 (by decide))).2.1⟩
  · exact ⟨g1, g2, rfl, hle, fun q => by cases q⟩
  · exact ⟨g1, g2, rfl, hle, fun q => by cases q⟩
  · exact ⟨GRW.rf, rfl, rfl, Nat.le_succ _, fun q => by cases q⟩
theorem ran_ok : ∀ (n : Nat) (σ : SS) (x : QL) (h : Nat), (qlK x).1 ≠ 6 → ∃ c : Nat, (ranS n σ x h).2.2 = h + c ∧ c ≤ n ∧ GRW σ (ranS n σ x h).1 ∧ zA (ranS n σ x h).1 = zA σ ∧ qlK (ranS n σ x h).2.1 = qlK x ∧ (zL (ranS n σ x h).1).length ≤ (zL σ).length + c := by
  intro n
  induction n with
  | zero => exact fun σ x h _ => ⟨0, rfl, Nat.le_refl _, GRW.rf, rfl, rfl, Nat.le_refl _⟩
  | succ n ih =>
    intro σ x h hk
    unfold ranS
    split
    · exact ⟨0, rfl, Nat.zero_le _, GRW.rf, rfl, rfl, Nat.le_refl _⟩
    · rename_i e he
      obtain ⟨g1, g2, g3, g4, g5⟩ := hnd_ok (σ := σ) (x := x) (e := e) hk
      by_cases q : (hndS σ x e).2.2 = true
      · rw [if_pos q]
        obtain ⟨c, r1, r2, r3, r4, r5, r6⟩ := ih (hndS σ x e).1 (setQ (hndS σ x e).2.1 (qlP x + 1) (qlD (hndS σ x e).2.1) (qlR (hndS σ x e).2.1)) (h + 1) (by show (qlK (hndS σ x e).2.1).1 ≠ 6; rw [g3]; exact hk)
        exact ⟨c + 1, by omega, by omega, g1.tr r3, r4.trans g2, r5.trans g3, by omega⟩
      · rw [if_neg q]
        have := g5 (by cases hq : (hndS σ x e).2.2 with
          | true => exact absurd hq q
          | false => rfl)
        exact ⟨0, rfl, Nat.zero_le _, g1, g2, g3, by show (zL (hndS σ x e).1).length ≤ _; rw [this]; omega⟩
