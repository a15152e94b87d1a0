theorem ixS_some {l : Tx} {x : Int32} {q : Nat} (h : ixS l x = some q) : q < l.length ∧ x ∈ l := by
  obtain ⟨h1, h2, -⟩ := List.findIdx?_eq_some_iff_getElem.mp h
  exact ⟨h1, (of_decide_eq_true h2) ▸ List.getElem_mem h1⟩
theorem lpP_len {X : Tx → PR Tx} {lv : Nat} (hX : ∀ s c s2, X s = .inl (c, s2) → c.length + s2.length ≤ s.length) : ∀ (g : Nat) (c s c2 s2 : Tx), lpP X lv g c s = .inl (c2, s2) → ∃ e, c2 = c ++ e ∧ e.length + s2.length ≤ s.length := by
  intro g
  induction g with
  | zero =>
    intro c s c2 s2 h
    cases h
    exact ⟨[], by simp, by simp⟩
  | succ g ih =>
    intro c s c2 s2 h
    unfold lpP at h
    split at h
    · rename_i x t
      split at h
      · cases hx : X t with
        | inr m => rw [hx] at h; cases h
        | inl q =>
          obtain ⟨c1, s1⟩ := q
          rw [hx] at h
          obtain ⟨e, e1, e2⟩ := ih _ _ _ _ h
          have := hX t c1 s1 hx
          refine ⟨c1 ++ [-x] ++ e, by rw [e1]; simp, ?_⟩
          simp only [List.length_append, List.length_cons, List.length_nil]
          omega
      · cases h
        exact ⟨[], by simp, by simp⟩
    · cases h
      exact ⟨[], by simp, by simp⟩
theorem dgOf_len (s : Tx) : (dgOf s).length ≤ s.length := Nat.le_trans (List.Sublist.length_le (List.takeWhile_sublist _)) (List.length_take_le' _ _)
theorem nbP_len {m : Int} {s : Tx} {v : Int} {s2 : Tx} (h : nbP m s = .inl (v, s2)) : s2.length < s.length := by
  unfold nbP at h
  split at h
  · cases h
  · rename_i hq
    cases h
    have h1 : dgOf s ≠ [] := fun e => hq (Or.inl e)
    have h2 := dgOf_len s
    have h3 : 0 < (dgOf s).length := List.length_pos_iff.mpr h1
    rw [List.length_drop]
    omega
theorem tkP_len {c : Int32} {s : Tx} {u : Unit} {s2 : Tx} (h : tkP c s = .inl (u, s2)) : s = c :: s2 := by
  unfold tkP at h
  split at h
  · split at h
    · rename_i e
      cases h
      rw [e]
    · cases h
  · cases h
theorem xP_len (vs : Tx) : ∀ (n op lv : Nat) (s c s2 : Tx), xP vs n op lv s = .inl (c, s2) → c.length + s2.length ≤ s.length ∧ s2.length < s.length := by
  intro n
  induction n with
  | zero => intro op lv s c s2 h; cases h
  | succ n ih =>
    intro op lv s c s2 h
    unfold xP at h
    split at h
    · unfold opP0 at h
      split at h
      · rename_i x t
        split at h
        · cases hn : nbP 9999 (x :: t) with
          | inr m => rw [hn] at h; cases h
          | inl q =>
            obtain ⟨v, s1⟩ := q
            rw [hn] at h
            cases h
            have := nbP_len hn
            simp only [List.length_cons, List.length_nil] at *
            omega
        · split at h
          · split at h
            · cases h
            · cases hx : xP vs n (op + 1) 3 t with
              | inr m => rw [hx] at h; cases h
              | inl q =>
                obtain ⟨c1, s1⟩ := q
                rw [hx] at h
                cases h
                have := ih _ _ _ _ _ hx
                simp only [List.length_append, List.length_cons, List.length_nil] at *
                omega
          · split at h
            · split at h
              · cases h
              · cases hx : xP vs n (op + 1) 0 t with
                | inr m => rw [hx] at h; cases h
                | inl q =>
                  obtain ⟨c1, s1⟩ := q
                  rw [hx] at h
                  have h2 := ih _ _ _ _ _ hx
                  cases ht : tkP 41 s1 with
                  | inr m =>
                    have h : bnd (tkP 41 s1) _ = _ := h
                    rw [ht] at h
                    cases h
                  | inl q =>
                    obtain ⟨u, s3⟩ := q
                    have h : bnd (tkP 41 s1) _ = _ := h
                    rw [ht] at h
                    cases h
                    have := congrArg List.length (tkP_len ht)
                    simp only [List.length_cons] at *
                    omega
            · unfold ltP at h
              simp only at h
              split at h
              · unfold ltE at h
                split at h
                · split at h
                  · cases h
                  · cases h
                    simp only [List.length_cons, List.length_nil]
                    omega
                · cases h
                  simp only [List.length_cons, List.length_nil]
                  omega
              · cases h
      · cases h
    · cases hx : xP vs n op (lv + 1) s with
      | inr m => rw [hx] at h; cases h
      | inl q =>
        obtain ⟨c1, s1⟩ := q
        rw [hx] at h
        have h1 := ih _ _ _ _ _ hx
        obtain ⟨e, e1, e2⟩ := lpP_len (fun s c s2 hq => (ih _ _ _ _ _ hq).1) _ _ _ _ _ h
        rw [e1, List.length_append]
        omega
/-- the letters that the tape reads a C with -/
def LTR (D : DY) (vs : Tx) : Prop := ∃ jl, jl < 22 ∧ dR D 46 2 = some (2 * jl + 1) ∧ sL jl = vs ∧ 0 < vs.length ∧ vs.length ≤ 5 ∧ ∀ x ∈ vs, lowB x = true
theorem pk_b {I : IM} {T : Tx} {r : PS} (h : PC I T r) : ∃ n : Nat, n < 256 ∧ pkV r = z32 (n : Int) ∧ (n = 0 → pkV r = 0) := by
  rcases r with (_ | ⟨x, t⟩) | m
  · exact ⟨0, by omega, rfl, fun _ => rfl⟩
  · have hs : sfx (x :: t) T := h.2.1
    have := hs.hd h.1.2.2.2 (List.mem_cons_self)
    refine ⟨x.toInt.toNat, by omega, ?_, fun e => by omega⟩
    show x = _
    rw [Int.toNat_of_nonneg (by omega)]
    exact z32_of x
  · exact ⟨0, by omega, rfl, fun _ => rfl⟩
theorem flR_ln {r : PS} {α : Type} {X : Tx → PR α} (h : ∀ s, r = .inl s → X s = .inr s.length) : aft (sq r X) = flR (lnR r) r := by
  cases r with
  | inl s => show aft (X s) = _; rw [h s rfl]; rfl
  | inr m => rfl
theorem ltE_0 {q : Nat} {t : Tx} : (wdOf t).length = 0 ↔ ltE q t = .inl ([z32 (10000 + (q : Int))], t) := by
  cases t with
  | nil => exact ⟨fun _ => rfl, fun _ => rfl⟩
  | cons y u =>
    rw [wdOf_cons]
    unfold ltE
    cases hy : lowB y with
    | true => simp [hy]
    | false => simp [hy]
theorem ltE_or (q : Nat) (t : Tx) : ltE q t = .inl ([z32 (10000 + (q : Int))], t) ∨ ltE q t = .inr (t.length + 1) := by
  cases t with
  | nil => exact Or.inl rfl
  | cons y u =>
    unfold ltE
    cases hy : lowB y with
    | true => exact Or.inr (by simp [hy])
    | false => exact Or.inl (by simp [hy])
theorem flR_inr (r : PS) : flR (lnR r) r = .inr (lnR r) := by cases r <;> rfl
theorem XC.fl {I I2 : IM} {T : Tx} {r : PS} {c c2 : Tx} {m : Nat} (h : XC I T r c) (hf : PFr I I2) (hP : PC I2 T (.inr m)) : XC I2 T (.inr m) c2 := by
  obtain ⟨-, ⟨cl, h3, h4⟩, -⟩ := h
  exact ⟨hP, ⟨cl, h3, by rw [hf 46 3 (fun _ => by omega)]; exact h4⟩, fun s hs => by cases hs⟩
theorem c_letter {d : Nat} {I : IM} {D : DY} {K : IM → Prop} {T : Tx} {r : PS} {c vs : Tx} (hS : SOK I) (hL : LTR D vs) (h : XC I T r c)
    (k : ∀ I2, PFx I I2 → XC I2 T (aft (sq r (ltP vs))) (apC c (sq r (ltP vs))) → K I2) : CV (d + 4) 34 [vR (some 46)] (mm I D) K := by
  obtain ⟨jl, hj, hR, hvs, hv0, hv5, hlow⟩ := hL
  obtain ⟨n, hn, hpk, hp0⟩ := pk_b h.1
  have hP := h.1
  refine s_Tape_letter ?_
  rw [e_peek hP, hR, onR_some, tsP_iff]
  refine ⟨by rw [kd_s (by omega)]; exact (strF jl hj).1, ?_⟩
  rw [hpk, (byt8 n hn).2, e_indexOf hS hj (by rw [hvs]; exact hv0) hn, hvs, ← hpk]
  have hfail : (∀ s, r = .inl s → ltP vs s = .inr s.length) → CV (d + 3) 24 [vR (some 46), vI (I 46 5)] (mm I D) (fun I3 => qV (mm I D) K none (mm I3 D)) := fun hq => by
    refine c_fail hP (m := lnR r) (fun s hs => ?_) (fun I2 hf hP2 => qV_i (k I2 hf.x ?_))
    · subst hs
      exact ⟨hP.2.2.1, hP.2.1.1⟩
    · have e := flR_ln (X := ltP vs) hq
      rw [e, flR_inr]
      rw [flR_inr] at hP2
      exact h.fl hf hP2
  cases hx : ixS vs (pkV r) with
  | none =>
    rw [brP_t (by decide)]
    refine hfail (fun s hs => ?_)
    subst hs
    cases s with
    | nil => rfl
    | cons x t =>
      have hx : ixS vs x = none := hx
      unfold ltP
      simp only [hx]
      rfl
  | some q =>
    obtain ⟨hq1, hq2⟩ := ixS_some hx
    have hlx := hlow _ hq2
    rcases r with (_ | ⟨x, t⟩) | m
    · exact absurd hlx (by decide)
    · have hx : ixS vs x = some q := hx
      have hlx : lowB x = true := hlx
      have hs : sfx (x :: t) T := hP.2.1
      have hl : t.length + 1 ≤ T.length := hs.1
      have h160 := hP.1.2.1
      have hwl := wdOf_len t
      have ew : (wdR (.inl (x :: t))).length = (wdOf t).length + 1 := by
        show (wdOf (x :: t)).length = _
        rw [wdOf_cons, if_pos hlx]
        rfl
      rw [brP_f (by show ¬ z32 (q : Int) < z32 0; rw [z32_lt] <;> omega), e_wordEnd hP, hP.2.2.1, ew]
      have e1 : (z32 (plC T (.inl (x :: t)) + (((wdOf t).length + 1 : Nat) : Int)) = z32 (plC T (.inl (x :: t))) + 1) ↔ (wdOf t).length = 0 := by
        have hb := hP.pl
        show _ = _ + z32 1 ↔ _
        have h2 : plC T (.inl (x :: t)) = (T.length : Int) - (t.length + 1 : Nat) := by simp only [plC, List.length_cons]
        rw [z32_add, z32_inj] <;> omega
      have el : ltP vs (x :: t) = ltE q t := by
        unfold ltP
        simp only [hx]
      refine brP_i (fun z => ?_) (fun z => ?_)
      · have z2 := (ltE_0 (q := q)).mp (e1.mp z)
        have el2 : ltP vs (x :: t) = .inl ([z32 (10000 + (q : Int))], t) := by rw [el, z2]
        rw [sq_inl, el2] at k
        have e2 : (10000 : Int32) + ixV (some q) = z32 (10000 + (q : Int)) := by
          show z32 10000 + z32 (q : Int) = _
          rw [z32_add]
        rw [e2]
        have hn2 := hP.next
        rw [hP.2.2.1] at hn2
        have hX : XC (up2 I 46 5 (z32 (plC T (.inl (x :: t))) + 1)) T (.inl t) c := h.fr (PFr.up (by omega)) hn2 (fun s hs => ⟨x :: t, rfl, by cases hs; simp⟩)
        have h5 := (h.2.2 _ rfl).2
        rw [List.length_cons] at h5
        exact c_emit hX (fun s hs => by cases hs; omega) (fun I2 hf hX2 => qV_i (k I2 ((PFr.up (by omega)).x.tr hf) hX2))
      · refine hP.2.2.1 ▸ hfail (fun s hs => ?_)
        cases hs
        rw [el]
        exact (ltE_or q t).resolve_left (fun e => z (e1.mpr ((ltE_0 (q := q)).mpr e)))
    · have h0 : lowB 0 = true := hlx
      exact absurd h0 (by decide)
