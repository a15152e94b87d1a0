/-- what reading with making may change of the whole numbers that were there -/
def PFa (I I2 : IM) (D : DY) : Prop := ∀ a k, a < dZ D → a ≠ 48 → (a = 46 → k ≠ 3 ∧ k ≠ 5 ∧ k ≠ 6) → I2 a k = I a k
theorem PFx.a {I I2 : IM} {D : DY} (h : PFx I I2) : PFa I I2 D := fun a k _ h1 h2 => h a k h1 h2
theorem PFa.tr {X : Nat → Prop} {I I2 I3 : IM} {D D2 : DY} {c s : Nat} (h : PFa I I2 D) (hd : DX X D D2 c s) (h2 : PFa I2 I3 D2) : PFa I I3 D := fun a k h1 h3 h4 => (h2 a k (Nat.lt_of_lt_of_le h1 hd.1) h3 h4).trans (h a k h1 h3 h4)
theorem PFa.im {I I2 : IM} {D : DY} (h : PFa I I2 D) : IMF I I2 D := fun a k h1 h2 _ => h a k h2 (by omega) (fun e => by omega)
theorem SOK.fa {I I2 : IM} {D : DY} (h : SOK I) (hf : PFa I I2 D) (hz : 159 ≤ dZ D) : SOK I2 := fun j hj => ⟨by rw [hf _ _ (by omega) (by omega) (fun q => by omega)]; exact (h j hj).1, fun k hk => by rw [hf _ _ (by omega) (by omega) (fun q => by omega)]; exact (h j hj).2 k hk⟩
theorem PC.fa {I I2 : IM} {T : Tx} {r : PS} {D : DY} (h : PC I T r) (hf : ∀ a k, a < 159 → I2 a k = I a k) : PC I2 T r := by
  obtain ⟨⟨t1, t2, t3, t4⟩, h2, h3, h4⟩ := h
  exact ⟨⟨by rw [hf 46 4 (by omega)]; exact t1, t2, fun k hk => by rw [hf 47 k (by omega)]; exact t3 k hk, t4⟩, h2, by rw [hf 46 5 (by omega)]; exact h3, by rw [hf 46 6 (by omega)]; exact h4⟩
/-- rows of references that reading may write: the tape's letters -/
def XL (a : Nat) : Prop := a = 46
theorem XLn : ∀ a, 159 ≤ a → ¬ XL a := fun a h q => by have q : a = 46 := q; omega
theorem dZ_m {D : DY} {c n w : Nat} : dZ (dmk D c n w) = dZ D + 1 := rfl
theorem dZ_s {D : DY} {a j : Nat} {v : Option Nat} : dZ (dset D a j v) = dZ D := rfl
theorem dR_s {D : DY} {a j : Nat} {v : Option Nat} : dR (dset D a j v) a j = v := up2_eq
theorem c_formula {d : Nat} {I : IM} {D : DY} {K : Option Nat → IM → DY → Prop} {T : Tx} {r : PS} {jl op : Nat} {vs : Tx} (hd : 70 ≤ d) (hop : op ≤ 6) (hz : 159 ≤ dZ D) (hS : SOK I) (hj : jl < 22) (hvs : sL jl = vs) (hv : 0 < vs.length ∧ vs.length ≤ 5 ∧ ∀ x ∈ vs, lowB x = true) (h : PC I T r)
    (k : ∀ I2 D2, DX XL D D2 3 194 → dZ D < dZ D2 → dK D2 (dZ D) = 4 → PFa I I2 D → PC I2 T (aft (sq r (cP vs op))) → (∀ c s, sq r (cP vs op) = .inl (c, s) → isF I2 D2 (dZ D) c) → K (some (dZ D)) I2 D2) :
    AR (d + 1) 28 [vR (some 46), vR (some (2 * jl + 1)), vI (z32 (op : Int))] (mm I D) K := by
  refine s_Tape_formula _ _ ?_
  simp only [setR_m (show isFn 46 2 = false from rfl)]
  have hL : LTR (dset D 46 2 (some (2 * jl + 1))) vs := ⟨jl, hj, dR_s, hvs, hv.1, hv.2.1, hv.2.2⟩
  have hf0 : PFx I (up2 I 46 3 0) := fun a j g2 g3 => by
    by_cases e : a = 46
    · subst e
      exact up2_nj (g3 rfl).1
    · exact up2_ne e
  have h160 : ∀ s, r = .inl s → s.length ≤ 160 := fun s hs => by
    subst hs
    exact Nat.le_trans h.2.1.1 h.1.2.1
  have hX0 : XC (up2 I 46 3 0) T r [] := ⟨⟨h.1.fx hf0, h.2.1, by rw [up2_nj (by omega)]; exact h.2.2.1, by rw [up2_nj (by omega)]; exact h.2.2.2⟩, ⟨0, by omega, up2_eq⟩, fun s hs => ⟨⟨up2_eq, Nat.zero_le _, fun k hk => absurd hk (Nat.not_lt_zero k)⟩, by have := h160 s hs; simpa using this⟩⟩
  have hall := (h_all vs (xN op 0)).2 op 0 hop (by omega) (Nat.le_refl _)
  refine hall d _ _ _ T r [] (by unfold xN; omega) (hS.fx hf0) hL hX0 (fun I2 hf2 hX2 => ?_)
  have ecp : xP vs (xN op 0) op 0 = cP vs op := rfl
  rw [ecp] at hX2
  obtain ⟨hP2, ⟨cl, hcl, h46⟩, hcc⟩ := hX2
  refine can_mk 1 hz ?_
  simp only [dZ_m, dZ_s]
  have e3 : upr I2 (dZ D) 0 46 3 = z32 (cl : Int) := by
    rw [upr_ne (show 46 ≠ dZ D by omega)]
    exact h46
  rw [e3]
  refine c_copyOf (d := d - 1) 1 (show 159 ≤ dZ D + 1 by omega) hcl ?_ |> fun z => (by rw [show d - 1 + 1 = d by omega] at z; exact z)
  refine tsP_i ?_ ?_
  · rw [mmK hz]
    exact (up1_ne (show dZ D ≠ dZ D + 1 by omega)).trans up1_eq
  refine c_Finit (d := d - 1) (show dZ D < dZ D + 1 + 1 by omega) hz ((up1_ne (show dZ D ≠ dZ D + 1 by omega)).trans up1_eq) ?_ |> fun z => (by rw [show d - 1 + 1 = d by omega] at z; exact z)
  refine aR_i rfl ?_
  simp only [dZ_m, dZ_s]
  generalize hD5 : dset (dmk (dset (dmk (dmk (dset D 46 2 (some (2 * jl + 1))) 4 2 1) 20 cl 1) (dZ D) 0 (some (dZ D + 1))) 20 32 2) (dZ D) 1 (some (dZ D + 1 + 1)) = D5
  have hz5 : dZ D5 = dZ D + 3 := by rw [← hD5]; rfl
  have hdx : DX XL D D5 3 194 := by
    have q1 : DX XL D (dmk (dmk (dset D 46 2 (some (2 * jl + 1))) 4 2 1) 20 cl 1) (0 + 1 + 1) (0 + 2 + cl) := ((DX.set (X := XL) (show XL 46 from rfl)).tr DX.mk).tr DX.mk
    have q2 := (((q1.setN (a := dZ D) (j := 0) (v := some (dZ D + 1)) (Nat.le_refl _)).tr (DX.mk (c := 20) (n := 32) (w := 2))).setN (a := dZ D) (j := 1) (v := some (dZ D + 1 + 1)) (Nat.le_refl _)).le (c2 := 3) (s2 := 194) (by omega) (by omega)
    rw [← hD5]
    exact q2
  generalize hI5 : upr (cpI (upr (upr I2 (dZ D) 0) (dZ D + 1) 0) 48 (dZ D + 1) 0 0 cl) (dZ D + 1 + 1) 0 = I5
  have hold : ∀ a k, a < dZ D → I5 a k = I2 a k := fun a k ha => by
    rw [← hI5, upr_ne (show a ≠ dZ D + 1 + 1 by omega)]
    unfold cpI
    rw [if_neg (fun q => by have : a = dZ D + 1 := q.1; omega), upr_ne (show a ≠ dZ D + 1 by omega), upr_ne (show a ≠ dZ D by omega)]
  have hcode : ∀ k, k < cl → I5 (dZ D + 1) k = I2 48 k := fun k hk => by
    rw [← hI5, upr_ne (show dZ D + 1 ≠ dZ D + 1 + 1 by omega)]
    unfold cpI
    rw [if_pos ⟨rfl, Nat.zero_le _, by omega⟩, Nat.sub_zero, Nat.zero_add, upr_ne (show 48 ≠ dZ D + 1 by omega), upr_ne (show 48 ≠ dZ D by omega)]
  have k5 : dK D5 (dZ D) = 4 := by
    rw [← hD5]
    exact (up1_ne (show dZ D ≠ dZ D + 1 + 1 by omega)).trans ((up1_ne (show dZ D ≠ dZ D + 1 by omega)).trans up1_eq)
  refine k I5 D5 hdx (by omega) k5 (fun a j h1 h2 h3 => ?_) (hP2.fa (D := D) (fun a k ha => hold a k (by omega))) (fun c s hq => ?_)
  · rw [hold a j h1]
    exact (hf0.tr hf2) a j h2 h3
  · rw [hq] at hcc
    obtain ⟨⟨c1, c2, c3⟩, -⟩ := hcc s rfl
    have c1 : I2 46 3 = z32 (c.length : Int) := c1
    have c2 : c.length ≤ 160 := c2
    have c3 : ∀ k, k < c.length → I2 48 k = c.getD k 0 := c3
    rw [h46, z32_inj (by omega) (by omega) (by omega) (by omega)] at c1
    obtain rfl : cl = c.length := by omega
    refine ⟨hz, by omega, k5, c2, dZ D + 1, dZ D + 2, ?_, ?_, ⟨by omega, by omega, ?_, ?_, ?_⟩, ⟨by omega, by omega, ?_, ?_, ?_⟩, fun k hk => ?_⟩
    · rw [← hD5]
      exact (up2_nj (show (0 : Nat) ≠ 1 by omega)).trans ((upr_ne (show dZ D ≠ dZ D + 1 + 1 by omega)).trans up2_eq)
    · rw [← hD5]
      exact up2_eq
    · rw [← hD5]
      exact (up1_ne (show dZ D + 1 ≠ dZ D + 1 + 1 by omega)).trans up1_eq
    · rw [← hD5]
      exact (up1_ne (show dZ D + 1 ≠ dZ D + 1 + 1 by omega)).trans up1_eq
    · rw [← hD5]
      exact (up1_ne (show dZ D + 1 ≠ dZ D + 1 + 1 by omega)).trans up1_eq
    · rw [← hD5]
      exact up1_eq
    · rw [← hD5]
      exact up1_eq
    · rw [← hD5]
      exact up1_eq
    · rw [hcode k hk]
      exact c3 k hk
theorem c_always {d : Nat} {I : IM} {D : DY} {K : Option Nat → IM → DY → Prop} (hz : 159 ≤ dZ D)
    (k : ∀ I2 D2, DX XL D D2 3 35 → dZ D + 3 = dZ D2 → (∀ a j, a < dZ D → I2 a j = I a j) → isF I2 D2 (dZ D + 1) [1] → K (some (dZ D + 1)) I2 D2) : AR (d + 2) 113 [] (mm I D) K := by
  refine s_Tape_always ?_
  refine can_mk 1 hz ?_
  refine tsP_i ?_ (tsP_i ?_ ?_)
  · rw [mmK hz]
    exact up1_eq
  · rw [mmN hz]
    show 0 ≤ _ ∧ _ < (((up1 (dN D) (dZ D) 1 (dZ D) : Nat)) : Int)
    rw [up1_eq]
    exact ⟨by decide, by decide⟩
  refine can_mk 1 (show 159 ≤ dZ D + 1 by omega) ?_
  simp only [dZ_m, dZ_s]
  refine tsP_i ?_ ?_
  · rw [mmK (show 159 ≤ dZ D + 1 by omega)]
    exact up1_eq
  refine c_Finit (d := d) (show dZ D + 1 < dZ D + 1 + 1 by omega) (show 159 ≤ dZ D + 1 by omega) up1_eq ?_
  refine aR_i rfl ?_
  simp only [dZ_m, dZ_s]
  generalize hD5 : dset (dmk (dset (dmk (dmk D 20 1 1) 4 2 1) (dZ D + 1) 0 (some (dZ D))) 20 32 2) (dZ D + 1) 1 (some (dZ D + 1 + 1)) = D5
  have hz5 : dZ D5 = dZ D + 3 := by rw [← hD5]; rfl
  have hdx : DX XL D D5 3 35 := by
    have q1 : DX XL D (dmk (dmk D 20 1 1) 4 2 1) (1 + 1) (1 + 2) := DX.mk.tr DX.mk
    have q2 := (((q1.setN (a := dZ D + 1) (j := 0) (v := some (dZ D)) (Nat.le_succ _)).tr (DX.mk (c := 20) (n := 32) (w := 2))).setN (a := dZ D + 1) (j := 1) (v := some (dZ D + 1 + 1)) (Nat.le_succ _)).le (c2 := 3) (s2 := 35) (by omega) (by omega)
    rw [← hD5]
    exact q2
  generalize hI5 : upr (upr (up2 (upr I (dZ D) 0) (dZ D) 0 1) (dZ D + 1) 0) (dZ D + 1 + 1) 0 = I5
  refine k I5 D5 hdx hz5.symm (fun a j ha => ?_) ⟨by omega, by omega, ?_, by decide, dZ D, dZ D + 2, ?_, ?_, ⟨by omega, by omega, ?_, ?_, ?_⟩, ⟨by omega, by omega, ?_, ?_, ?_⟩, fun q hq => ?_⟩
  · rw [← hI5, upr_ne (show a ≠ dZ D + 1 + 1 by omega), upr_ne (show a ≠ dZ D + 1 by omega), up2_ne (show a ≠ dZ D by omega), upr_ne (show a ≠ dZ D by omega)]
  · rw [← hD5]
    exact (up1_ne (show dZ D + 1 ≠ dZ D + 1 + 1 by omega)).trans up1_eq
  · rw [← hD5]
    exact (up2_nj (show (0 : Nat) ≠ 1 by omega)).trans ((upr_ne (show dZ D + 1 ≠ dZ D + 1 + 1 by omega)).trans up2_eq)
  · rw [← hD5]
    exact up2_eq
  · rw [← hD5]
    exact (up1_ne (show dZ D ≠ dZ D + 1 + 1 by omega)).trans ((up1_ne (show dZ D ≠ dZ D + 1 by omega)).trans up1_eq)
  · rw [← hD5]
    exact (up1_ne (show dZ D ≠ dZ D + 1 + 1 by omega)).trans ((up1_ne (show dZ D ≠ dZ D + 1 by omega)).trans up1_eq)
  · rw [← hD5]
    exact (up1_ne (show dZ D ≠ dZ D + 1 + 1 by omega)).trans ((up1_ne (show dZ D ≠ dZ D + 1 by omega)).trans up1_eq)
  · rw [← hD5]
    exact up1_eq
  · rw [← hD5]
    exact up1_eq
  · rw [← hD5]
    exact up1_eq
  · have hq : q < 1 := hq
    obtain rfl : q = 0 := by omega
    rw [← hI5, upr_ne (show dZ D ≠ dZ D + 1 + 1 by omega), upr_ne (show dZ D ≠ dZ D + 1 by omega), up2_eq]
    rfl
