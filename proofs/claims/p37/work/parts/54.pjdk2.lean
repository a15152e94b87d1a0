/-! What is appended, and the String at last. -/
/-- the text of a number below a hundred -/
def nt (x : Nat) : Tx := if x < 10 then [digV 0 x] else [digV 1 x, digV 0 x]
theorem nt_len (x : Nat) : 1 ≤ (nt x).length ∧ (nt x).length ≤ 2 := by
  unfold nt
  split
  · exact ⟨Nat.le_refl 1, Nat.le_succ 1⟩
  · exact ⟨Nat.le_succ 1, Nat.le_refl 2⟩
theorem digF : ∀ x : Nat, x < 100 → (digV 0 x).toInt8.toInt32 = digV 0 x ∧ (digV 1 x).toInt8.toInt32 = digV 1 x ∧ (nt x).all chrB = true := by decide +kernel
theorem getD_l {t u : Tx} {k : Nat} (h : k < t.length) : (t ++ u).getD k 0 = t.getD k 0 := by
  rw [List.getD_eq_getElem?_getD, List.getD_eq_getElem?_getD, List.getElem?_append_left h]
theorem getD_r {t u : Tx} {k : Nat} : (t ++ u).getD (t.length + k) 0 = u.getD k 0 := by
  rw [List.getD_eq_getElem?_getD, List.getD_eq_getElem?_getD, List.getElem?_append_right (Nat.le_add_right _ _), Nat.add_sub_cancel_left]
theorem SBR.app {I I2 : IM} {D : DY} {a v n : Nat} {t u : Tx} (h : SBR I D a v n t) (hl : t.length + u.length ≤ n) (h9 : t.length + u.length ≤ 90) (hu : ∀ x ∈ u, chrB x = true) (h1 : I2 a 1 = I a 1) (h3 : I2 a 3 = z32 ((t.length + u.length : Nat) : Int)) (h4 : ∀ k, k < t.length → I2 v k = I v k) (h5 : ∀ k, k < u.length → I2 v (t.length + k) = u.getD k 0) : SBR I2 D a v n (t ++ u) := by
  obtain ⟨⟨a1, a2, a3, a4, a5, a6⟩, ⟨v1, v2, v3, v4, v5⟩, l1, l2, l3, l4, l5⟩ := h
  have e : (t ++ u).length = t.length + u.length := List.length_append
  refine ⟨⟨a1, a2, a3, a4, h1.trans a5, by rw [e]; exact h3⟩, ⟨v1, v2, v3, v4, v5⟩, by omega, l2, by omega, fun k hk => ?_, fun x hx => ?_⟩
  · by_cases q : k < t.length
    · rw [getD_l q, h4 k q]
      exact l4 k q
    · obtain ⟨j, rfl⟩ : ∃ j, k = t.length + j := ⟨k - t.length, by omega⟩
      rw [getD_r]
      exact h5 j (by omega)
  · rcases List.mem_append.mp hx with hx | hx
    · exact l5 x hx
    · exact hu x hx
section
variable {d : Nat} {I : IM} {D : DY}
theorem e_getBytes {K : IM → Prop} {s b v i : Nat} {u : Tx} (hs : STR I D s b u) (hv : 159 ≤ v) (hk : pKd (mm I D) v = 21) (hi : i + u.length ≤ pLn (mm I D) v) (h9 : i ≤ 1000) (k : K (cpI I b v 0 i u.length)) : CV (d + 1) 184 [vR (some s), vR (some v), vI (z32 (i : Int)), vI 0] (mm I D) K := by
  have h0 := hs
  obtain ⟨h1, h2, h3, h4, h5, h6, h7, h8, -⟩ := hs
  refine s_String_getBytes _ _ _ _ (tsP_i h1 (g_coder h0 ?_))
  refine brP_i (fun q => absurd rfl q) (fun _ => tsP_i h1 (tsP_i h1 (onR_i h2 (tsP_i (by rw [h4]; decide) (onR_i h2 (tsP_i ⟨h4, hk, hv⟩ ?_))))))
  have e1 : Int32.ofNat (pLn (mm I D) b) = z32 (u.length : Int) := congrArg Int32.ofNat h5
  rw [e1, shl0, z32_toInt (n := (i : Int)) (by omega) (by omega), z32_toInt (n := (u.length : Int)) (by omega) (by omega), ix_n (by omega), ix_n (by omega)]
  refine tsP_i ⟨by decide, by omega, by omega, ?_, by omega⟩ (qV_i k)
  show (0 : Int) + _ ≤ _
  omega
theorem e_putStr {K : IM → Prop} {a v n s b : Nat} {t u : Tx} (h : SBR I D a v n t) (hs : STR I D s b u) (hl : t.length + u.length ≤ n) (k : K (cpI I b v 0 t.length u.length)) : CV (d + 2) 178 [vR (some a), vI (z32 (t.length : Int)), vR (some s)] (mm I D) K := by
  obtain ⟨k1, k2, k3, k4, k5, k6⟩ := h.kd
  have hc : I a 1 = 0 := h.1.2.2.2.2.1
  have l3 := h.2.2.2.2.1
  refine s_AB_putStr _ _ _ (tsP_i k1 ?_)
  refine s_AB_inflIf _ _ (tsP_i k1 (tsP_i hs.1 (g_coder hs ?_)))
  refine brP_i (fun _ => qV_i ?_) (fun q => absurd hc q)
  refine tsP_i k1 (tsP_i k1 (tsP_i hs.1 ?_))
  rw [k2, hc]
  exact e_getBytes (d := d) hs h.2.1.1 k3 (by rw [k4]; exact hl) (by omega) (qV_i k)
theorem e_appS {K : Option Nat → IM → DY → Prop} {a v n s b : Nat} {t u : Tx} (h : SBR I D a v n t) (hs : STR I D s b u) (hl : t.length + u.length ≤ 90) (k : ∀ I2 D2 v2 n2, CHX (fun q => q = a ∨ q = v) I D I2 D2 1 202 → SBR I2 D2 a v2 n2 (t ++ u) → (v2 = v ∨ v2 = dZ D) → K (some a) I2 D2) : AR (d + 5) 168 [vR (some a), vR (some s)] (mm I D) K := by
  obtain ⟨k1, k2, k3, k4, k5, k6⟩ := h.kd
  have sa : s ≠ a := fun e => by
    have := hs.1
    rw [e, k1] at this
    cases this
  have ba : b ≠ a := fun e => by
    have := hs.2.2.2.1
    rw [e, k1] at this
    cases this
  refine s_SB_appS _ _ (tsP_i k1 ?_)
  refine s_AB_appS _ _ (brP_i (fun q => nomatch q) (fun _ => tsP_i hs.1 (g_len (d := d + 2) hs (tsP_i k1 (tsP_i k1 ?_)))))
  have e1 : I a 3 + z32 (u.length : Int) = z32 ((t.length + u.length : Nat) : Int) := by
    rw [h.1.2.2.2.2.2, z32_add]
    rfl
  rw [e1]
  refine e_ensure (d := d) h (by omega) (fun I2 D2 v2 n2 c2 b2 l2 q2 => ?_)
  have s2 : STR I2 D2 s b u := hs.chx c2 sa ba
  obtain ⟨m1, m2, m3, m4, m5, m6⟩ := b2.kd
  refine tsP_i m1 (tsP_i m1 ?_)
  rw [b2.1.2.2.2.2.2]
  refine e_putStr (d := d + 1) b2 s2 l2 ?_
  have va : v2 ≠ a := b2.2.1.2.2.1
  have e2 : ∀ q j, q ≠ v2 → cpI I2 b v2 0 t.length u.length q j = I2 q j := fun q j hq => by
    unfold cpI
    rw [if_neg (fun z => hq z.1)]
  refine tsP_i m1 (tsP_i m1 (aR_i rfl (aR_i rfl (k _ D2 v2 n2 ?_ (b2.app l2 hl s2.2.2.2.2.2.2.2.1 ?_ ?_ (fun k hk => ?_) (fun k hk => ?_)) q2))))
  · refine ((c2.in (X := fun q => q = a ∨ q = v) (fun q _ e => Or.inl e)).tr (Y := fun q => q = a ∨ q = v2) (CHX.num (c := 0) (s := 0) (fun q j hq hx => ?_)) (fun q hq e => ?_)).le (by omega) (by omega)
    · rw [up2_ne (fun z => hx (Or.inl z)), e2 q j (fun z => hx (Or.inr z))]
    · rcases e with e | e
      · exact Or.inl e
      · rcases q2 with q2 | q2
        · exact Or.inr (e.trans q2)
        · omega
  · rw [up2_nj (by omega), e2 a 1 (fun z => va z.symm)]
  · rw [up2_eq, e2 a 3 (fun z => va z.symm), b2.1.2.2.2.2.2, z32_add]
    rfl
  · rw [up2_ne va]
    unfold cpI
    rw [if_neg (by omega)]
  · rw [up2_ne va]
    unfold cpI
    rw [if_pos ⟨rfl, by omega, by omega⟩, Nat.add_sub_cancel_left, Nat.zero_add]
    exact s2.2.2.2.2.2.2.1 k hk
theorem e_size {K : Int32 → IM → Prop} {x : Nat} (hx : x < 100) (k : K (z32 ((nt x).length : Int)) I) : CI d 185 [vI (z32 (x : Int))] (mm I D) K := by
  refine s_Integer_size _ (brP_i (fun q => absurd q ?_) (fun _ => ?_))
  · show ¬ z32 _ < z32 0
    rw [z32_lt (by omega) (by omega) (by omega) (by omega)]
    omega
  · rw [z32_neg]
    refine s_Integer_size_16 _ _ _ _ (brP_i (fun q => absurd q (by decide)) (fun _ => brP_i (fun q => ?_) (fun q => qI_i ?_)))
    · have q : z32 (-(x : Int)) ≤ z32 (-10) := q
      rw [z32_le (by omega) (by omega) (by omega) (by omega)] at q
      refine s_Integer_size_16 _ _ _ _ (brP_i (fun q => absurd q (by decide)) (fun _ => brP_i (fun q => ?_) (fun q => qI_i ?_)))
      · have q : z32 (-(x : Int)) ≤ z32 (-100) := q
        rw [z32_le (by omega) (by omega) (by omega) (by omega)] at q
        omega
      · unfold nt at k
        rw [if_neg (by omega)] at k
        exact k
    · have q : ¬ z32 (-(x : Int)) ≤ z32 (-10) := q
      rw [z32_le (by omega) (by omega) (by omega) (by omega)] at q
      unfold nt at k
      rw [if_pos (by omega)] at k
      exact k
theorem e_getChars {K : Int32 → IM → Prop} {x v i : Nat} (hw : LW I) (hx : x < 100) (hv : 159 ≤ v) (hk : pKd (mm I D) v = 21) (hi : i + (nt x).length ≤ pLn (mm I D) v) (hN : pLn (mm I D) v ≤ 1000000) (h9 : i ≤ 1000) (k : ∀ z I2, (∀ q j, ¬ (q = v ∧ i ≤ j ∧ j < i + (nt x).length) → I2 q j = I q j) → (∀ j, j < (nt x).length → I2 v (i + j) = (nt x).getD j 0) → K z I2) : CI d 186 [vI (z32 (x : Int)), vI (z32 ((i + (nt x).length : Nat) : Int)), vR (some v)] (mm I D) K := by
  obtain ⟨g1, g2, -⟩ := digF x hx
  have hl := nt_len x
  obtain ⟨w1, w2⟩ := hw.2 x hx
  have ex : -(-(z32 (x : Int))) = z32 (x : Int) := by
    rw [z32_neg, z32_neg, Int.neg_neg]
  have hin : inB (z32 (x : Int)) 100 := inB_n hx (by omega)
  refine s_Integer_getChars _ _ _ (brP_i (fun _ => ?_) (fun q => absurd ?_ q))
  · refine s_Integer_getChars_22 _ _ _ _ _ _ _ (brP_i (fun _ => ?_) (fun q => absurd ?_ q))
    · have e1 : z32 ((i + (nt x).length : Nat) : Int) + (-1) = z32 ((i + (nt x).length - 1 : Nat) : Int) := by
        rw [z32_m1, z32_add]
        congr 1
        omega
      refine s_Integer_getChars_72 _ _ _ _ _ _ _ ?_
      rw [ex, e1, ix_n (by omega), ix_n (by omega), w1, g1]
      refine tsP_i hin (tsP_i ⟨hk, hv⟩ (tsP_i (inB_n (by omega) hN) ?_))
      refine s_Integer_getChars_85 _ _ _ _ _ _ _ (brP_i (fun q => ?_) (fun q => ?_))
      · rw [z32_neg] at q
        have q : z32 (-9) ≤ z32 (-(x : Int)) := q
        rw [z32_le (by omega) (by omega) (by omega) (by omega)] at q
        have en : nt x = [digV 0 x] := if_pos (by omega)
        rw [en] at k hi ⊢
        refine s_Integer_getChars_104 _ _ _ _ _ _ _ (brP_i (fun _ => qI_i (k _ _ (fun q j hq => ?_) (fun j hj => ?_))) (fun q => absurd rfl q))
        · by_cases e : q = v
          · rw [up2_nj (fun z => hq ⟨e, by rw [z]; exact ⟨by show i ≤ i + 1 - 1; omega, by show i + 1 - 1 < i + 1; omega⟩⟩)]
          · rw [up2_ne e]
        · have hj : j < 1 := hj
          obtain rfl : j = 0 := by omega
          exact up2_eq
      · rw [z32_neg] at q
        have q : ¬ z32 (-9) ≤ z32 (-(x : Int)) := q
        rw [z32_le (by omega) (by omega) (by omega) (by omega)] at q
        have en : nt x = [digV 1 x, digV 0 x] := if_neg (by omega)
        rw [en] at k hi e1 ⊢
        have e2 : z32 ((i + [digV 1 x, digV 0 x].length - 1 : Nat) : Int) + (-1) = z32 (i : Int) := by
          rw [z32_m1, z32_add]
          congr 1
          show ((i + 2 - 1 : Nat) : Int) + -1 = _
          omega
        rw [ex, e2, ix_n (by omega), ix_n (by omega), up2_ne (by omega), w2, g2]
        refine tsP_i hin (tsP_i ⟨hk, hv⟩ (tsP_i (inB_n (by show i < pLn (mm I D) v; have hi : i + 2 ≤ pLn (mm I D) v := hi; omega) hN) ?_))
        refine s_Integer_getChars_104 _ _ _ _ _ _ _ (brP_i (fun _ => qI_i (k _ _ (fun q j hq => ?_) (fun j hj => ?_))) (fun q => absurd rfl q))
        · by_cases e : q = v
          · have hj : ¬ (i ≤ j ∧ j < i + 2) := fun z => hq ⟨e, z⟩
            rw [up2_nj (by omega), up2_nj (by show j ≠ i + 2 - 1; omega)]
          · rw [up2_ne e, up2_ne e]
        · have hj : j < 2 := hj
          by_cases e : j = 0
          · subst e
            exact up2_eq
          · obtain rfl : j = 1 := by omega
            rw [up2_nj (by omega)]
            exact up2_eq
    · rw [z32_neg]
      show z32 (-100) < z32 (-(x : Int))
      rw [z32_lt (by omega) (by omega) (by omega) (by omega)]
      omega
  · show z32 0 ≤ z32 (x : Int)
    rw [z32_le (by omega) (by omega) (by omega) (by omega)]
    omega
theorem e_appI {K : Option Nat → IM → DY → Prop} {a v n x : Nat} {t : Tx} (h : SBR I D a v n t) (hw : LW I) (hx : x < 100) (hl : t.length + 2 ≤ 90) (k : ∀ I2 D2 v2 n2, CHX (fun q => q = a ∨ q = v) I D I2 D2 1 202 → SBR I2 D2 a v2 n2 (t ++ nt x) → (v2 = v ∨ v2 = dZ D) → K (some a) I2 D2) : AR (d + 5) 169 [vR (some a), vI (z32 (x : Int))] (mm I D) K := by
  obtain ⟨k1, k2, k3, k4, k5, k6⟩ := h.kd
  have hn := nt_len x
  have a1 := h.1.1
  refine s_SB_appI _ _ (tsP_i k1 ?_)
  refine s_AB_appI _ _ (tsP_i k1 (e_size hx (tsP_i k1 ?_)))
  have e1 : I a 3 + z32 ((nt x).length : Int) = z32 ((t.length + (nt x).length : Nat) : Int) := by
    rw [h.1.2.2.2.2.2, z32_add]
    rfl
  rw [e1]
  refine e_ensure (d := d) h (by omega) (fun I2 D2 v2 n2 c2 b2 l2 q2 => ?_)
  obtain ⟨m1, m2, m3, m4, m5, m6⟩ := b2.kd
  have hz : 159 ≤ dZ D := Nat.le_trans a1 (Nat.le_of_lt h.1.2.1)
  have hw2 : LW I2 := ⟨fun j j1 j2 => ⟨(c2.2 _ _ (by omega) (by omega)).trans (hw.1 j j1 j2).1, fun k hk => (c2.2 _ _ (by omega) (by omega)).trans ((hw.1 j j1 j2).2 k hk)⟩, fun k hk => ⟨(c2.2 _ _ (by omega) (by omega)).trans (hw.2 k hk).1, (c2.2 _ _ (by omega) (by omega)).trans (hw.2 k hk).2⟩⟩
  refine tsP_i m1 (s_AB_isLatin1 _ (tsP_i m1 (brP_i (fun q => absurd b2.1.2.2.2.2.1 q) (fun _ => qI_i ?_))))
  refine brP_i (fun q => absurd q (by decide)) (fun _ => tsP_i m1 ?_)
  rw [m2]
  have va : v2 ≠ a := b2.2.1.2.2.1
  refine e_getChars (i := t.length) hw2 hx b2.2.1.1 m3 (by rw [m4]; exact l2) (by rw [m4]; have := b2.2.2.2.1; omega) (by omega) (fun z I3 f3 g3 => ?_)
  refine tsP_i m1 (aR_i rfl (aR_i rfl (k _ D2 v2 n2 ?_ (b2.app l2 (by omega) (fun y hy => List.all_eq_true.mp (digF x hx).2.2 y hy) ?_ up2_eq (fun k hk => ?_) (fun k hk => ?_)) q2)))
  · refine ((c2.in (X := fun q => q = a ∨ q = v) (fun q _ e => Or.inl e)).tr (Y := fun q => q = a ∨ q = v2) (CHX.num (c := 0) (s := 0) (fun q j hq hx => ?_)) (fun q hq e => ?_)).le (by omega) (by omega)
    · rw [up2_ne (fun z => hx (Or.inl z)), f3 q j (fun z => hx (Or.inr z.1))]
    · rcases e with e | e
      · exact Or.inl e
      · rcases q2 with q2 | q2
        · exact Or.inr (e.trans q2)
        · omega
  · rw [up2_nj (by omega), f3 a 1 (fun z => va z.1.symm)]
  · rw [up2_ne va, f3 _ _ (by omega)]
  · rw [up2_ne va, g3 k hk]
/-- the new builder -/
theorem e_sbInit {K : IM → DY → Prop} {a : Nat} (ha : 159 ≤ a ∧ a < dZ D ∧ dK D a = 12) (h3 : I a 3 = 0) (k : ∀ I2 D2, CHX (fun q => q = a) I D I2 D2 1 16 → SBR I2 D2 a (dZ D) 16 [] → K I2 D2) : AV (d + 2) 167 [vR (some a)] (mm I D) K := by
  obtain ⟨a1, a2, a3⟩ := ha
  have hz : 159 ≤ dZ D := by omega
  have k1 : pKd (mm I D) a = 12 := (mmK a1).trans a3
  refine s_SB_init _ (tsP_i k1 ?_)
  refine s_AB_init _ _ (tsP_i (by decide) (can_mk 2 hz ?_))
  have k2 : pKd (mm (upr I (dZ D) 0) (dmk D 21 (ixN 16) 2)) a = 12 := (mmK a1).trans ((up1_ne (by omega)).trans a3)
  refine tsP_i k2 (tsP_i k2 (tsP_i (by decide) ?_))
  refine aV_i (setR_m (isFn_new a1)) (aV_i rfl (k _ _ ⟨?_, ?_⟩ ?_))
  · have q1 : DX (fun q => q = a) D (dset (dmk D 21 (ixN 16) 2) a 0 (some (dZ D))) (1 + 0) (ixN 16 + 0) := (DX.mk (X := fun q => q = a) (D := D) (c := 21) (n := ixN 16) (w := 2)).tr (DX.set rfl)
    exact q1
  · intro q j hq hx
    have hx : q ≠ a := hx
    rw [up2_ne hx, upr_ne (by omega)]
  · refine ⟨⟨a1, Nat.lt_succ_of_lt a2, (up1_ne (by omega)).trans a3, up2_eq, up2_eq, ?_⟩, ⟨hz, Nat.lt_succ_self _, by omega, up1_eq, up1_eq⟩, Nat.zero_le _, by decide, Nat.zero_le _, fun k hk => absurd hk (Nat.not_lt_zero k), fun x hx => nomatch hx⟩
    rw [up2_nj (by omega), upr_ne (by omega)]
    exact h3
end
