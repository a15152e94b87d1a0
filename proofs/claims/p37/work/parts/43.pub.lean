/-! The class's calls: states, snapshots, the log. -/
theorem br0 {c : Prop} [Decidable c] {A B : Prop} (h1 : c → B) (h2 : ¬ c → A) : brP (b32 c = 0) A B := brP_i (fun q => h2 (b32_0.mp q)) (fun q => h1 (Classical.not_not.mp (fun e => q (b32_0.mpr e))))
theorem br1 {c : Prop} [Decidable c] {A B : Prop} (h1 : c → A) (h2 : ¬ c → B) : brP (¬ b32 c = 0) A B := brP_i (fun q => h1 (Classical.not_not.mp (fun e => q (b32_0.mpr e)))) (fun q => h2 (b32_0.mp (Classical.not_not.mp q)))
def aN (x : Int32) : Nat := x.toInt.toNat
theorem aN_z {n : Nat} (h : n < 1000000) : aN (z32 (n : Int)) = n := by
  unfold aN
  rw [z32_toInt] <;> omega
theorem rng {x : Int32} {m : Nat} (hm : m < 1000000) (h : 0 ≤ x ∧ x ≤ z32 (m : Int)) : ∃ n : Nat, x = z32 (n : Int) ∧ n ≤ m := by
  obtain ⟨y, rfl, h1, h2⟩ := z32_all x
  rw [z32_0, z32_le (by omega) (by omega) h1 h2, z32_le h1 h2 (by omega) (by omega)] at h
  exact ⟨y.toNat, by rw [Int.toNat_of_nonneg h.1], by omega⟩
theorem rng1 {x : Int32} {m : Nat} (hm : m < 1000000) (h : 1 ≤ x ∧ x ≤ z32 (m : Int)) : ∃ n : Nat, x = z32 ((n + 1 : Nat) : Int) ∧ n + 1 ≤ m := by
  obtain ⟨y, rfl, h1, h2⟩ := z32_all x
  have h1' : z32 1 ≤ z32 y := h.1
  rw [z32_le (by omega) (by omega) h1 h2] at h1'
  have h2' := h.2
  rw [z32_le h1 h2 (by omega) (by omega)] at h2'
  exact ⟨(y - 1).toNat, by congr 1; omega, by omega⟩
abbrev VD : Int32 := -2000000000
theorem CWF.of {τ : ST} {I : IM} {D : DY} (h : RC τ I D) : CWF (zC (tS τ)) := h.2.2.2.2.1.2.2.1.2.2.1
section
variable {d : Nat} {I : IM} {D : DY} {τ : ST}
theorem RC.L (h : RC τ I D) : LG 55 I (zL (tS τ)) := h.2.2.2.2.1.1
theorem RC.B (h : RC τ I D) : BN 60 I (stF (zC (tS τ)) (zL (tS τ))) := h.2.2.2.2.1.2.1
theorem RC.M (h : RC τ I D) : FM 63 I D (zC (tS τ)) := h.2.2.2.2.1.2.2.1
theorem RC.N (h : RC τ I D) : SNP 68 I (zN (tS τ)) := h.2.2.2.2.1.2.2.2.1
theorem RC.b (h : RC τ I D) : RB 0 (tS τ) I D := h.2.2.2.2.1
theorem e_isVer {K : Int32 → IM → Prop} {s v : Int32} (h : RC τ I D) : CI (d + 3) 89 [vR (some 45), vI s, vI v] (mm I D) K ↔ K (b32 ((0 ≤ s ∧ s ≤ 7) ∧ 0 ≤ v ∧ v ≤ z32 (vrS (zL (tS τ)) (aN s) : Int))) I := by
  refine CI_iff (s_S_isVersion _ _ ?_)
  rw [e_isStream]
  refine br0 (fun hs => ?_) (fun hs => qI_i ⟨(b32_f (fun c => hs c.1)).symm, rfl⟩)
  obtain ⟨n, rfl, hn⟩ := rng (m := 7) (by omega) hs
  rw [e_ver h.L (by omega), e_within, aN_z (by omega)]
  refine br0 (fun hv => qI_i ⟨(b32_t ⟨hs, hv⟩).symm, rfl⟩) (fun hv => qI_i ⟨(b32_f (fun c => hv c.2)).symm, rfl⟩)
/-! spec -/
def S_state (τ : ST) (s w : Int32) : Int32 := if (0 ≤ s ∧ s ≤ 7) ∧ 0 ≤ w ∧ w ≤ 4 then (if w = 4 then z32 (vrS (zL (tS τ)) (aN s) : Int) else s4 (aN w) (stF (zC (tS τ)) (zL (tS τ)) (aN s))) else VD
theorem p_state {K : Int32 → IM → Prop} (h : RC τ I D) (s w : Int32) (k : ∀ I2, FrM I I2 → RC τ I2 D → K (S_state τ s w) I2) : CI (d + 100) 87 [vR (some 45), vI s, vI w] (mm I D) K := by
  have kk := k I FrM.rf h
  unfold S_state at kk
  refine s_S_state _ _ ?_
  rw [e_isStream]
  refine br0 (fun hs => ?_) (fun hs => qI_i ?_)
  · rw [e_within]
    refine br1 (fun hw => ?_) (fun hw => qI_i ?_)
    · rw [if_pos ⟨hs, hw⟩] at kk
      obtain ⟨n, rfl, hn⟩ := rng (m := 7) (by omega) hs
      obtain ⟨m, rfl, hm⟩ := rng (m := 4) (by omega) hw
      rw [aN_z (by omega), aN_z (by omega)] at kk
      refine brP_i (fun q => ?_) (fun q => ?_)
      · rw [if_neg q] at kk
        have hm4 : m ≠ 4 := fun e => q (by rw [e]; rfl)
        rw [e_bg (w := m) BB59 h.B (by omega) (by omega) rfl]
        exact qI_i kk
      · rw [if_pos (Classical.not_not.mp q)] at kk
        rw [e_ver h.L (by omega)]
        exact qI_i kk
    · rw [if_neg (fun c => hw c.2)] at kk
      exact kk
  · rw [if_neg (fun c => hs c.1)] at kk
    exact kk
/-- the position of a version -/
def posN (τ : ST) (s v : Int32) : Nat := if v = 0 then 0 else aN (posL (aN s) v (zL (tS τ)) 1)
def S_at (τ : ST) (s v w : Int32) : Int32 := if ((0 ≤ s ∧ s ≤ 7) ∧ 0 ≤ v ∧ v ≤ z32 (vrS (zL (tS τ)) (aN s) : Int)) ∧ 0 ≤ w ∧ w ≤ 3 then s4 (aN w) (stF (zC (tS τ)) ((zL (tS τ)).take (posN τ s v)) (aN s)) else VD
theorem posL_ok {s v : Nat} : ∀ (xs pre : List EV), (∀ i e, (pre ++ xs)[i]? = some e → eV e = vrS ((pre ++ xs).take (i + 1)) (eS e)) → vrS pre s < v → v ≤ vrS (pre ++ xs) s → (pre ++ xs).length ≤ 240 → ∃ i e, i < xs.length ∧ (pre ++ xs)[pre.length + i]? = some e ∧ eS e = s ∧ eV e = v ∧ posL s (z32 (v : Int)) xs (pre.length + 1) = z32 ((pre.length + i + 1 : Nat) : Int) := by
  intro xs
  induction xs with
  | nil =>
    intro pre h h1 h2 _
    rw [List.append_nil] at h2
    omega
  | cons e xs ih =>
    intro pre h h1 h2 h3
    have hl : (pre ++ e :: xs).length = pre.length + (xs.length + 1) := by rw [List.length_append, List.length_cons]
    have eq : pre ++ e :: xs = (pre ++ [e]) ++ xs := by rw [List.append_assoc]; rfl
    have he : (pre ++ e :: xs)[pre.length]? = some e := get_mid
    have hv := h pre.length e he
    have et : (pre ++ e :: xs).take (pre.length + 1) = pre ++ [e] := by rw [eq, List.take_append_of_le_length (by rw [List.length_append, List.length_singleton]; exact Nat.le_refl _), List.take_of_length_le (by rw [List.length_append, List.length_singleton]; exact Nat.le_refl _)]
    rw [et, vrS_snoc] at hv
    rw [if_pos rfl] at hv
    have hb : vrS (pre ++ [e]) (eS e) ≤ (pre ++ [e]).length := vrS_le
    rw [List.length_append, List.length_singleton, vrS_snoc, if_pos rfl] at hb
    have hvl : v ≤ 240 := Nat.le_trans h2 (Nat.le_trans vrS_le h3)
    have step : posL s (z32 (v : Int)) (e :: xs) (pre.length + 1) = if eS e = s then (if z32 (eV e : Int) = z32 (v : Int) then z32 ((pre.length + 1 : Nat) : Int) else posL s (z32 (v : Int)) xs (pre.length + 1 + 1)) else posL s (z32 (v : Int)) xs (pre.length + 1 + 1) := rfl
    have rest : vrS (pre ++ [e]) s < v → posL s (z32 (v : Int)) (e :: xs) (pre.length + 1) = posL s (z32 (v : Int)) xs (pre.length + 1 + 1) → ∃ i e2, i < (e :: xs).length ∧ (pre ++ e :: xs)[pre.length + i]? = some e2 ∧ eS e2 = s ∧ eV e2 = v ∧ posL s (z32 (v : Int)) (e :: xs) (pre.length + 1) = z32 ((pre.length + i + 1 : Nat) : Int) := fun g1 g2 => by
      obtain ⟨i, e2, i1, i2, i3, i4, i5⟩ := ih (pre ++ [e]) (by rw [← eq]; exact h) g1 (by rw [← eq]; exact h2) (by rw [← eq]; exact h3)
      rw [List.length_append, List.length_singleton] at i2 i5
      rw [← eq] at i2
      refine ⟨i + 1, e2, by rw [List.length_cons]; omega, ?_, i3, i4, ?_⟩
      · rw [show pre.length + (i + 1) = pre.length + 1 + i by omega]
        exact i2
      · rw [g2, i5]
        congr 2
        omega
    by_cases q : eS e = s
    · rw [if_pos q] at step
      by_cases q2 : eV e = v
      · rw [if_pos (by rw [q2])] at step
        exact ⟨0, e, by rw [List.length_cons]; omega, he, q, q2, step⟩
      · rw [if_neg (fun c => q2 ((z32_eN (by omega) (by omega)).mp c))] at step
        refine rest ?_ step
        rw [vrS_snoc, if_pos q]
        rw [q] at hv
        omega
    · rw [if_neg q] at step
      refine rest ?_ step
      rw [vrS_snoc, if_neg q]
      exact h1
theorem posL_v {τ : ST} (w : VOk (tS τ)) (hl : (zL (tS τ)).length ≤ 240) {s v : Nat} (h1 : 0 < v) (h2 : v ≤ vrS (zL (tS τ)) s) : ∃ i e, (zL (tS τ))[i]? = some e ∧ eS e = s ∧ eV e = v ∧ posL s (z32 (v : Int)) (zL (tS τ)) 1 = z32 ((i + 1 : Nat) : Int) := by
  obtain ⟨i, e, i1, i2, i3, i4, i5⟩ := posL_ok (s := s) (v := v) (zL (tS τ)) [] w h1 h2 hl
  have e0 : ([] : List EV).length = 0 := rfl
  rw [e0, Nat.zero_add] at i2
  rw [e0, Nat.zero_add, Nat.zero_add] at i5
  exact ⟨i, e, i2, i3, i4, i5⟩
theorem p_at {K : Int32 → IM → Prop} (h : RC τ I D) (wf : WF (tS τ)) (s v w : Int32) (k : ∀ I2, FrM I I2 → RC τ I2 D → K (S_at τ s v w) I2) : CI (d + 100) 88 [vR (some 45), vI s, vI v, vI w] (mm I D) K := by
  have hl := h.L.2.1
  have hes : ∀ e ∈ zL (tS τ), eS e < 8 := fun e he => (wf.1 e he).1
  refine s_S_at _ _ _ ?_
  rw [e_isVer h]
  unfold S_at at k
  refine br0 (fun hs => ?_) (fun hs => qI_i ?_)
  · rw [e_within]
    refine br1 (fun hw => ?_) (fun hw => qI_i ?_)
    · rw [if_pos ⟨hs, hw⟩] at k
      obtain ⟨n, rfl, hn⟩ := rng (m := 7) (by omega) hs.1
      rw [aN_z (by omega)] at hs
      have hvr := vrS_le (L := zL (tS τ)) (s := n)
      obtain ⟨u, rfl, hu⟩ := rng (by omega) hs.2
      obtain ⟨m, rfl, hm⟩ := rng (m := 3) (by omega) hw
      rw [aN_z (by omega), aN_z (by omega)] at k
      refine brP_i (fun q => ?_) (fun q => ?_)
      · have hu0 : 0 < u := Nat.pos_of_ne_zero (fun e => q (by rw [e]; rfl))
        rw [e_pos (d := d + 96) h.L (by omega) hes]
        obtain ⟨i, e, i1, i2, i3, i4⟩ := posL_v wf.2.1 hl hu0 hu
        have hi := lt_of_get i1
        have ep : posN τ (z32 (n : Int)) (z32 (u : Int)) = i + 1 := by
          unfold posN
          rw [if_neg q, aN_z (by omega), i4, aN_z (by omega)]
        rw [ep] at k
        rw [i4]
        refine c_foldPast (d := d + 94) h.L h.M wf.1 (by omega) (fun I2 q2 b2 => ?_)
        rw [e_bg (w := m) BB61 b2 (by omega) (by omega) rfl]
        exact qI_i (k I2 q2.m (h.qf q2))
      · have q := Classical.not_not.mp q
        have ep : posN τ (z32 (n : Int)) (z32 (u : Int)) = 0 := if_pos q
        rw [ep] at k
        refine c_foldPast (d := d + 94) (n := 0) h.L h.M wf.1 (by omega) (fun I2 q2 b2 => ?_)
        rw [e_bg (w := m) BB61 b2 (by omega) (by omega) rfl]
        exact qI_i (k I2 q2.m (h.qf q2))
    · rw [if_neg (fun c => hw c.2)] at k
      exact k I FrM.rf h
  · rw [if_neg (fun c => hs c.1)] at k
    exact k I FrM.rf h
def S_steps (τ : ST) (s v : Int32) : Int32 := if (0 ≤ s ∧ s ≤ 7) ∧ 0 ≤ v ∧ v ≤ z32 (vrS (zL (tS τ)) (aN s) : Int) then v - z32 (ltV (eraC (zC (tS τ))) (aN v) (zN (tS τ) (aN s)) 0 : Int) else -1
theorem p_steps {K : Int32 → IM → Prop} (h : RC τ I D) (s v : Int32) (k : ∀ I2, FrM I I2 → RC τ I2 D → K (S_steps τ s v) I2) : CI (d + 100) 91 [vR (some 45), vI s, vI v] (mm I D) K := by
  have hl := h.L.2.1
  have kk := k I FrM.rf h
  have he := eraC_le (CWF.of h).1
  refine s_S_steps _ _ ?_
  rw [e_isVer h]
  unfold S_steps at kk
  refine br1 (fun hs => ?_) (fun hs => qI_i ?_)
  · rw [if_pos hs] at kk
    obtain ⟨n, rfl, hn⟩ := rng (m := 7) (by omega) hs.1
    rw [aN_z (by omega)] at hs kk
    have hvr := vrS_le (L := zL (tS τ)) (s := n)
    obtain ⟨u, rfl, hu⟩ := rng (by omega) hs.2
    rw [aN_z (by omega)] at kk
    rw [show I 63 4 = z32 (eraC (zC (tS τ)) : Int) from h.M.1]
    exact c_latest (d := d + 98) h.N (by omega) he (by omega) (qI_i kk)
  · rw [if_neg hs] at kk
    exact kk
def S_snaps (τ : ST) (s w : Int32) : Int32 := if (0 ≤ s ∧ s ≤ 7) ∧ 0 ≤ w ∧ w ≤ 1 then (if w = 0 then z32 ((zN (tS τ) (aN s)).length : Int) else z32 (gdV (eraC (zC (tS τ))) (zN (tS τ) (aN s)) : Int)) else -1
def S_event (τ : ST) (p w : Int32) : Int32 := if (1 ≤ p ∧ p ≤ z32 ((zL (tS τ)).length : Int)) ∧ 0 ≤ w ∧ w ≤ 7 then (match (zL (tS τ))[aN p - 1]? with
  | none => VD
  | some e => if 6 ≤ w then (if w = 6 then (rdE (zC (tS τ)) e).1 else (rdE (zC (tS τ)) e).2) else colE (aN w) e) else VD
theorem p_event {K : Int32 → IM → Prop} (h : RC τ I D) (wf : WF (tS τ)) (p w : Int32) (k : ∀ I2, FrM I I2 → RC τ I2 D → K (S_event τ p w) I2) : CI (d + 100) 99 [vR (some 45), vI p, vI w] (mm I D) K := by
  have hl := h.L.2.1
  unfold S_event at k
  refine s_S_event _ _ ((e_lhas (d := d + 98) p).mpr ?_)
  rw [h.L.1]
  refine br0 (fun hs => ?_) (fun hs => qI_i ?_)
  · rw [e_within]
    refine br1 (fun hw => ?_) (fun hw => qI_i ?_)
    · rw [if_pos ⟨hs, hw⟩] at k
      obtain ⟨i, rfl, hi⟩ := rng1 (by omega) hs
      obtain ⟨m, rfl, hm⟩ := rng (m := 7) (by omega) hw
      obtain ⟨e, he⟩ : ∃ e, (zL (tS τ))[i]? = some e := ⟨(zL (tS τ))[i]'(by omega), List.getElem?_eq_getElem (by omega)⟩
      rw [aN_z (by omega), aN_z (by omega), show i + 1 - 1 = i by omega, he] at k
      dsimp only at k
      refine brP_i (fun q => ?_) (fun q => ?_)
      · rw [if_pos q] at k
        refine c_read (d := d + 96) h.L h.M he (wf.1 e (List.mem_of_getElem? he)) (fun I2 r2 lt2 => ?_)
        have k := k I2 r2.q.m (h.qf r2.q)
        refine brP_i (fun q2 => ?_) (fun q2 => ?_)
        · rw [if_neg q2] at k
          rw [e_letter (j := 1) (lit := 1) (by omega) rfl, lt2.2.1]
          exact qI_i k
        · rw [if_pos (Classical.not_not.mp q2)] at k
          rw [e_letter (j := 0) (lit := 0) (by omega) rfl, lt2.1]
          exact qI_i k
      · rw [if_neg q] at k
        have q : ¬ z32 6 ≤ z32 (m : Int) := q
        rw [z32_le (by omega) (by omega) (by omega) (by omega)] at q
        rw [e_lg (d := d + 97) h.L he (c := m) (by omega) rfl]
        exact qI_i (k I FrM.rf h)
    · rw [if_neg (fun c => hw c.2)] at k
      exact k I FrM.rf h
  · rw [if_neg (fun c => hs c.1)] at k
    exact k I FrM.rf h
theorem RC.wr {I2 : IM} (h : RC τ I D) (hf : WR I I2) : RC τ I2 D := h.qf hf.q
def S_text (τ : ST) (p i : Int32) : Int32 := if (1 ≤ p ∧ p ≤ z32 ((zL (tS τ)).length : Int)) ∧ -1 ≤ i then (match (zL (tS τ))[aN p - 1]? with
  | none => VD
  | some e => if i = -1 then z32 ((txV (aN p) e).length : Int) else if z32 ((txV (aN p) e).length : Int) ≤ i then -2 else (txV (aN p) e).getD (aN i) 0) else -1
def S_find (τ : ST) (s v : Int32) : Int32 := if ((0 ≤ s ∧ s ≤ 7) ∧ 0 ≤ v ∧ v ≤ z32 (vrS (zL (tS τ)) (aN s) : Int)) ∧ ¬ v ≤ 0 then posL (aN s) v (zL (tS τ)) 1 else -1
theorem p_find {K : Int32 → IM → Prop} (h : RC τ I D) (wf : WF (tS τ)) (s v : Int32) (k : ∀ I2, FrM I I2 → RC τ I2 D → K (S_find τ s v) I2) : CI (d + 100) 106 [vR (some 45), vI s, vI v] (mm I D) K := by
  have k := k I FrM.rf h
  unfold S_find at k
  refine s_S_find _ _ ?_
  rw [e_isVer h]
  refine br0 (fun hs => brP_i (fun q => qI_i ?_) (fun q => ?_)) (fun hs => qI_i ?_)
  · rw [if_neg (fun c => c.2 q)] at k
    exact k
  · rw [if_pos ⟨hs, q⟩] at k
    obtain ⟨n, rfl, hn⟩ := rng (m := 7) (by omega) hs.1
    rw [aN_z (by omega)] at k
    rw [e_pos (d := d + 96) h.L (by omega) (fun e he => (wf.1 e he).1)]
    exact qI_i k
  · rw [if_neg (fun c => hs c.1)] at k
    exact k
def S_worth (τ : ST) (p : Int32) : Int64 := if 0 ≤ p ∧ p ≤ z32 ((zL (tS τ)).length : Int) then wrV (stF (zC (tS τ)) ((zL (tS τ)).take (aN p))) (List.range' 0 8) 0 else -9223372036854775808
def S_tally (τ : ST) (kd p q w : Int32) : Int32 := if ((0 ≤ kd ∧ kd ≤ 8) ∧ 0 ≤ w ∧ w ≤ 2) ∧ ¬ q < p ∧ (1 ≤ p ∧ p ≤ z32 ((zL (tS τ)).length : Int)) ∧ 1 ≤ q ∧ q ≤ z32 ((zL (tS τ)).length : Int) then
  tsel (aN w) (tal (zC (tS τ)) (aN kd) (((zL (tS τ)).drop (aN p - 1)).take (aN q - (aN p - 1))) 0 0 (-2000000000)) else VD
def S_digest (τ : ST) (p : Int32) : Int64 := if 0 ≤ p ∧ p ≤ z32 ((zL (tS τ)).length : Int) then (dgL ((zL (tS τ)).take (aN p)) 1 7).toInt64 &&& 4294967295 else -1
def S_led (τ : ST) (w : Int32) : Int32 := if 0 ≤ w ∧ w ≤ 6 then zD (tS τ) (aN w) else -1
theorem p_led {K : Int32 → IM → Prop} (h : RC τ I D) (w : Int32) (k : ∀ I2, FrM I I2 → RC τ I2 D → K (S_led τ w) I2) : CI (d + 100) 161 [vR (some 45), vI w] (mm I D) K := by
  have k := k I FrM.rf h
  unfold S_led at k
  refine s_S_led _ ?_
  rw [e_within]
  refine br0 (fun hs => ?_) (fun hs => qI_i ?_)
  · rw [if_pos hs] at k
    obtain ⟨n, rfl, hn⟩ := rng (m := 6) (by omega) hs
    rw [aN_z (by omega)] at k
    refine tsP_i (inB_n (by omega) (by omega)) (qI_i ?_)
    rw [ix_n (by omega), show I 78 n = zD (tS τ) n from h.b.2.2.2.2.2.2.1 n (by omega)]
    exact k
  · rw [if_neg hs] at k
    exact k
/-- counts -/
def cnt (p : Nat → Bool) : List Nat → Nat
  | [] => 0
  | k :: l => (bif p k then 1 else 0) + cnt p l
theorem cnt_le {p : Nat → Bool} : ∀ {l : List Nat}, cnt p l ≤ l.length
  | [] => Nat.le_refl _
  | k :: l => by
    have := cnt_le (p := p) (l := l)
    show (bif p k then 1 else 0) + cnt p l ≤ l.length + 1
    cases p k <;> simp <;> omega
theorem used_loop {K : Int32 → IM → Prop} {L : List EV} (h : LG 55 I L) : ∀ (g i n : Nat), i + g = 8 → n ≤ i → K (z32 ((n + cnt (fun s => decide (0 < vrS L s)) (List.range' i g) : Nat) : Int)) I → Wp GG d 163 4 [vR (some 55), vI (z32 (n : Int)), vI (z32 (i : Int))] [] (mm I D) (qI (mm I D) K) := by
  have hl := h.2.1
  intro g
  induction g with
  | zero =>
    intro i n hi hn k
    exact s_Log_streamsUsed_4 _ _ ((brP_t (by show z32 8 ≤ _; rw [z32_le] <;> omega)).mpr (qI_i k))
  | succ g ih =>
    intro i n hi hn k
    have hvr := vrS_le (L := L) (s := i)
    refine s_Log_streamsUsed_4 _ _ ((brP_f (by show ¬ z32 8 ≤ _; rw [z32_le] <;> omega)).mpr (tsP_i (inB_n (by omega) (by omega)) ?_))
    rw [ix_n (by omega), show I 57 i = z32 (vrS L i : Int) from h.2.2.2 i (by omega), z32_s]
    rw [List.range'_succ] at k
    refine brP_i (fun q => ?_) (fun q => ?_)
    · rw [z32_0, z32_le (by omega) (by omega) (by omega) (by omega)] at q
      rw [show z32 (n : Int) + 0 = z32 (n : Int) by rw [z32_0, z32_add, Int.add_zero]]
      refine ih (i + 1) n (by omega) (by omega) ?_
      rw [show n + cnt (fun s => decide (0 < vrS L s)) (i :: List.range' (i + 1) g) = n + cnt (fun s => decide (0 < vrS L s)) (List.range' (i + 1) g) by
        show n + ((bif decide (0 < vrS L i) then 1 else 0) + _) = _
        rw [decide_eq_false (by omega)]
        exact congrArg (n + ·) (Nat.zero_add _)] at k
      exact k
    · rw [z32_0, z32_le (by omega) (by omega) (by omega) (by omega)] at q
      rw [z32_s]
      refine ih (i + 1) (n + 1) (by omega) (by omega) ?_
      rw [show n + cnt (fun s => decide (0 < vrS L s)) (i :: List.range' (i + 1) g) = n + 1 + cnt (fun s => decide (0 < vrS L s)) (List.range' (i + 1) g) by
        show n + ((bif decide (0 < vrS L i) then 1 else 0) + _) = _
        rw [decide_eq_true (by omega)]
        exact (Nat.add_assoc _ _ _).symm] at k
      exact k
theorem numb_loop {K : Int32 → IM → Prop} {A : Nat → Int32} (h : ∀ k, k < 1000 → I 72 k = A k) : ∀ (g i n : Nat), i + g = 1000 → n ≤ i → K (z32 ((n + cnt (fun s => decide (0 < A s)) (List.range' i g) : Nat) : Int)) I → Wp GG d 164 4 [vR (some 54), vI (z32 (n : Int)), vI (z32 (i : Int))] [] (mm I D) (qI (mm I D) K) := by
  intro g
  induction g with
  | zero =>
    intro i n hi hn k
    exact s_Store_numbersUsed_4 _ _ ((brP_t (by show z32 1000 ≤ _; rw [z32_le] <;> omega)).mpr (qI_i k))
  | succ g ih =>
    intro i n hi hn k
    refine s_Store_numbersUsed_4 _ _ ((brP_f (by show ¬ z32 1000 ≤ _; rw [z32_le] <;> omega)).mpr (tsP_i (inB_n (by omega) (by omega)) ?_))
    rw [ix_n (by omega), h i (by omega), z32_s]
    rw [List.range'_succ] at k
    refine brP_i (fun q => ?_) (fun q => ?_)
    · rw [show z32 (n : Int) + 0 = z32 (n : Int) by rw [z32_0, z32_add, Int.add_zero]]
      refine ih (i + 1) n (by omega) (by omega) ?_
      rw [show n + cnt (fun s => decide (0 < A s)) (i :: List.range' (i + 1) g) = n + cnt (fun s => decide (0 < A s)) (List.range' (i + 1) g) by
        show n + ((bif decide (0 < A i) then 1 else 0) + _) = _
        rw [decide_eq_false (Int32.not_lt.mpr q)]
        exact congrArg (n + ·) (Nat.zero_add _)] at k
      exact k
    · rw [z32_s]
      refine ih (i + 1) (n + 1) (by omega) (by omega) ?_
      rw [show n + cnt (fun s => decide (0 < A s)) (i :: List.range' (i + 1) g) = n + 1 + cnt (fun s => decide (0 < A s)) (List.range' (i + 1) g) by
        show n + ((bif decide (0 < A i) then 1 else 0) + _) = _
        rw [decide_eq_true (Int32.not_le.mp q)]
        exact (Nat.add_assoc _ _ _).symm] at k
      exact k
theorem live_loop {K : Int32 → IM → Prop} {σ : SS} (h : RP 0 σ I D) : ∀ (g i n : Nat), i + g = 4 → n ≤ i → K (z32 ((n + cnt (fun p => (zP σ 0 p).isSome) (List.range' i g) : Nat) : Int)) I → Wp GG d 166 4 [vR (some 54), vI (z32 (n : Int)), vI (z32 (i : Int))] [] (mm I D) (qI (mm I D) K) := by
  intro g
  induction g with
  | zero =>
    intro i n hi hn k
    exact s_Store_liveOnes_4 _ _ ((brP_t (by show z32 4 ≤ _; rw [z32_le] <;> omega)).mpr (qI_i k))
  | succ g ih =>
    intro i n hi hn k
    refine s_Store_liveOnes_4 _ _ ((brP_f (by show ¬ z32 4 ≤ _; rw [z32_le] <;> omega)).mpr (tsP_i (inB_n (by omega) (by omega)) ?_))
    rw [ix_n (by omega), z32_s]
    rw [List.range'_succ] at k
    have h0 := h 0 i (by omega) (by omega)
    have ek : n + cnt (fun p => (zP σ 0 p).isSome) (i :: List.range' (i + 1) g) = n + ((bif (zP σ 0 i).isSome then 1 else 0) + cnt (fun p => (zP σ 0 p).isSome) (List.range' (i + 1) g)) := rfl
    rw [ek] at k
    cases he : zP σ 0 i with
    | none =>
      rw [he] at h0 k
      have h0 : dR D 73 i = none := h0
      refine (brP_t h0).mpr ?_
      rw [show z32 (n : Int) + 0 = z32 (n : Int) by rw [z32_0, z32_add, Int.add_zero]]
      refine ih (i + 1) n (by omega) (by omega) ?_
      rw [show n + ((bif (none : Option PJ).isSome then 1 else 0) + cnt (fun p => (zP σ 0 p).isSome) (List.range' (i + 1) g)) = n + cnt (fun p => (zP σ 0 p).isSome) (List.range' (i + 1) g) from congrArg (n + ·) (Nat.zero_add _)] at k
      exact k
    | some v =>
      rw [he] at h0 k
      obtain ⟨a, h0, -⟩ := h0
      have h0 : dR D 73 i = some a := h0
      refine (brP_f (by rw [h0]; simp)).mpr ?_
      rw [z32_s]
      refine ih (i + 1) (n + 1) (by omega) (by omega) ?_
      rw [show n + ((bif (some v : Option PJ).isSome then 1 else 0) + cnt (fun p => (zP σ 0 p).isSome) (List.range' (i + 1) g)) = n + 1 + cnt (fun p => (zP σ 0 p).isSome) (List.range' (i + 1) g) from (Nat.add_assoc _ _ _).symm] at k
      exact k
def S_count (τ : ST) (w : Int32) : Int32 := if w = 0 then z32 ((zL (tS τ)).length : Int) else if w = 1 then z32 (eraC (zC (tS τ)) : Int) else if w = 2 then z32 ((tT τ).length : Int) else if w = 3 then z32 (cnt (fun s => decide (0 < vrS (zL (tS τ)) s)) (List.range' 0 8) : Int)
  else if w = 4 then z32 (cnt (fun s => decide (0 < zA (tS τ) s)) (List.range' 0 1000) : Int) else if w = 5 then z32 ((sumN (fun s => (zN (tS τ) s).length) (List.range' 0 8) : Nat) : Int) else if w = 6 then z32 (cnt (fun p => (zP (tS τ) 0 p).isSome) (List.range' 0 4) : Int) else if w = 7 then z32 (zV (tS τ) : Int) else -1
theorem p_count {K : Int32 → IM → Prop} (h : RC τ I D) (w : Int32) (k : ∀ I2, FrM I I2 → RC τ I2 D → K (S_count τ w) I2) : CI (d + 100) 162 [vR (some 45), vI w] (mm I D) K := by
  have k := k I FrM.rf h
  unfold S_count at k
  refine s_S_count _ ?_
  refine brP_i (fun q => qI_i ?_) (fun q => ?_)
  · rw [if_pos q] at k
    rw [h.L.1]
    exact k
  rw [if_neg q] at k
  refine brP_i (fun q => qI_i ?_) (fun q => ?_)
  · rw [if_pos (show w = 1 from q)] at k
    rw [show I 63 4 = z32 (eraC (zC (tS τ)) : Int) from h.M.1]
    exact k
  rw [if_neg (show ¬ w = 1 from q)] at k
  refine brP_i (fun q => qI_i ?_) (fun q => ?_)
  · rw [if_pos (show w = 2 from q)] at k
    rw [h.2.2.1.1]
    exact k
  rw [if_neg (show ¬ w = 2 from q)] at k
  refine brP_i (fun q => ?_) (fun q => ?_)
  · rw [if_pos (show w = 3 from q)] at k
    exact s_Log_streamsUsed (used_loop (d := d + 99) h.L 8 0 0 rfl (by omega) (qI_i (by rw [Nat.zero_add]; exact k)))
  rw [if_neg (show ¬ w = 3 from q)] at k
  refine brP_i (fun q => ?_) (fun q => ?_)
  · rw [if_pos (show w = 4 from q)] at k
    exact s_Store_numbersUsed (numb_loop (d := d + 99) h.b.2.2.2.2.1 1000 0 0 rfl (by omega) (qI_i (by rw [Nat.zero_add]; exact k)))
  rw [if_neg (show ¬ w = 4 from q)] at k
  refine brP_i (fun q => ?_) (fun q => ?_)
  · rw [if_pos (show w = 5 from q)] at k
    exact c_total (d := d + 99) h.N (qI_i k)
  rw [if_neg (show ¬ w = 5 from q)] at k
  refine brP_i (fun q => ?_) (fun q => ?_)
  · rw [if_pos (show w = 6 from q)] at k
    exact s_Store_liveOnes (live_loop (d := d + 99) h.2.2.2.2.2.1 4 0 0 rfl (by omega) (qI_i (by rw [Nat.zero_add]; exact k)))
  rw [if_neg (show ¬ w = 6 from q)] at k
  refine brP_i (fun q => qI_i ?_) (fun q => qI_i ?_)
  · rw [if_pos (show w = 7 from q)] at k
    rw [show I 54 13 = z32 (zV (tS τ) : Int) from h.b.2.2.2.2.2.2.2.1]
    exact k
  · rw [if_neg (show ¬ w = 7 from q)] at k
    exact k
end
