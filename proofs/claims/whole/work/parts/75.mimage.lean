/-! The model's image. -/
def rwL : List Nat := [113, 114, 115, 116, 117, 118, 119, 120, 122, 123, 124, 126, 125, 135, 136, 137, 138, 139, 140, 141, 142, 145, 146, 147, 148, 149, 150, 151, 152, 153, 154, 155, 156, 157]
theorem rw_ok : ∀ a ∈ rwL, kdT a = 20 ∧ a < 159 ∧ 106 < a ∧ a ≠ 158 ∧ ofsM a + lnT a ≤ 2790 ∧ 4 ≤ ofsM a ∧ 0 < lnT a ∧ lnT a ≤ 1000 := by decide +kernel
theorem rw_sep : ∀ a ∈ rwL, ∀ b ∈ rwL, b = a ∨ ofsM b + lnT b ≤ ofsM a ∨ ofsM a + lnT a ≤ ofsM b := by decide +kernel
theorem e_sw0 {d : Nat} {J : IM} {D : DY} {K : Int32 → IM → Prop} {m : Nat} {v : Int32} (h : J 106 78 = z32 (m : Int)) (hm : m < 4200) : CI d 263 [vR (some 106), vI v, vI 0] (mm J D) K ↔ K v (up2 (up2 J 158 m v) 106 78 (z32 ((m + 1 : Nat) : Int))) := by
  refine CI_iff (s_M_swapOne _ _ ((brP_t rfl).mpr (tsP_i (h ▸ inB_n hm (by omega)) (qI_i ⟨rfl, ?_⟩))))
  rw [h, ix_n (by omega), z32_s]
theorem e_sw1 {d : Nat} {J : IM} {D : DY} {K : Int32 → IM → Prop} {m : Nat} {v : Int32} (h : J 106 78 = z32 (m : Int)) (hm : m < 4200) : CI d 263 [vR (some 106), vI v, vI 1] (mm J D) K ↔ K (J 158 m) (up2 J 106 78 (z32 ((m + 1 : Nat) : Int))) := by
  refine CI_iff (s_M_swapOne _ _ ((brP_f (by decide)).mpr (tsP_i (h ▸ inB_n hm (by omega)) (qI_i ⟨?_, ?_⟩))))
  · rw [h, ix_n (by omega)]
  · rw [h, z32_s]
/-- what was saved so far -/
def SV (I0 J : IM) (m : Nat) : Prop := (∀ q k, ¬ ((q = 106 ∧ k = 78) ∨ q = 158) → J q k = I0 q k) ∧ J 106 78 = z32 (m : Int) ∧ (∀ a ∈ rwL, ofsM a + lnT a ≤ m → ∀ k, k < lnT a → J 158 (ofsM a + k) = I0 a k) ∧ J 158 0 = I0 106 14 ∧ J 158 1 = I0 106 22 ∧ J 158 2 = I0 106 23 ∧ J 158 3 = I0 106 75
theorem sv_row {d : Nat} {D : DY} {K : IM → Prop} {I0 J : IM} {a m : Nat} (ha : a ∈ rwL) (hm : m = ofsM a) (h : SV I0 J m) (k : ∀ J2, SV I0 J2 (ofsM a + lnT a) → K J2) : CV (d + 1) 264 [vR (some 106), vR (some a), vI 0] (mm J D) K := by
  subst hm
  obtain ⟨r1, r2, r3, r4, r5, r6, r7, r8⟩ := rw_ok a ha
  obtain ⟨s1, s2, s3, s4, s5, s6, s7⟩ := h
  have hk : ∀ G : IM, pKd (mm G D) a = 20 := fun G => (kd_s r2).trans r1
  have hl : ∀ G : IM, pLn (mm G D) a = lnT a := fun G => ln_s r2 (by omega)
  have loop : ∀ (g j : Nat) (G : IM), j + g = lnT a → (∀ q k, ¬ ((q = 106 ∧ k = 78) ∨ (q = 158 ∧ ofsM a ≤ k)) → G q k = J q k) → G 106 78 = z32 ((ofsM a + j : Nat) : Int) → (∀ i, i < j → G 158 (ofsM a + i) = J a i) → Wp GG (d + 1) 264 2 [vR (some 106), vR (some a), vI 0, vI (z32 (j : Int))] [] (mm G D) (qV (mm J D) K) := by
    intro g
    induction g with
    | zero =>
      intro j G hj f e c
      refine s_M_swapRow_2 _ _ _ (onR_i rfl (tsP_i (by rw [hk]; decide) ?_))
      rw [hl, show Int32.ofNat (lnT a) = z32 (lnT a : Int) from ofNat_z _]
      refine (brP_t (by rw [z32_le] <;> omega)).mpr ⟨_, rfl, rfl, k G ⟨fun q i h => (f q i (by omega)).trans (s1 q i h), by rw [e]; congr 2; omega, fun b hb hle i hi => ?_, ?_, ?_, ?_, ?_⟩⟩
      · rcases rw_sep a ha b hb with w | w | w
        · subst w
          rw [c i (by omega), s1 _ _ (by omega)]
        · rw [f _ _ (by omega)]
          exact s3 b hb w i hi
        · have := (rw_ok b hb).2.2.2.2.2.2.1
          omega
      · rw [f _ _ (by omega)]; exact s4
      · rw [f _ _ (by omega)]; exact s5
      · rw [f _ _ (by omega)]; exact s6
      · rw [f _ _ (by omega)]; exact s7
    | succ g ih =>
      intro j G hj f e c
      have hin : inB (z32 (j : Int)) (lnT a) := inB_n (by omega) (by omega)
      refine s_M_swapRow_2 _ _ _ (onR_i rfl (tsP_i (by rw [hk]; decide) ?_))
      rw [hl, show Int32.ofNat (lnT a) = z32 (lnT a : Int) from ofNat_z _]
      refine (brP_f (by rw [z32_le] <;> omega)).mpr (onR_i rfl (tsP_i (hk G) (tsP_i (by rw [hl]; exact hin) ?_)))
      rw [ix_n (by omega), e_sw0 e (by omega)]
      refine onR_i rfl (tsP_i (hk _) (tsP_i (by rw [hl]; exact hin) ?_))
      rw [z32_s]
      have vj : G a j = J a j := f _ _ (by omega)
      refine ih (j + 1) _ (by omega) (fun q i h => ?_) (by rw [up2_ne (by omega), up2_eq]; rfl) (fun i hi => ?_)
      · by_cases z : q = a ∧ i = j
        · rw [z.1, z.2, up2_eq, vj]
        · rw [up2_if, if_neg z, up2_if, if_neg (by omega), up2_if, if_neg (by omega)]
          exact f q i h
      · rw [up2_ne (by omega), up2_ne (by omega)]
        by_cases z : i = j
        · rw [z, up2_eq, vj]
        · rw [up2_nj (by omega)]
          exact c i (by omega)
  exact s_M_swapRow _ _ (loop (lnT a) 0 J (Nat.zero_add _) (fun _ _ _ => rfl) s2 (fun i hi => absurd hi (Nat.not_lt_zero _)))
/-- what may be laid -/
def RwP (q k : Nat) : Prop := (q = 106 ∧ (k = 14 ∨ k = 22 ∨ k = 23 ∨ k = 75 ∨ k = 78)) ∨ (113 ≤ q ∧ q ≤ 126 ∧ q ≠ 121) ∨ (135 ≤ q ∧ q ≤ 142) ∨ (145 ≤ q ∧ q ≤ 157)
theorem rw_P : ∀ a ∈ rwL, (113 ≤ a ∧ a ≤ 126 ∧ a ≠ 121) ∨ (135 ≤ a ∧ a ≤ 142) ∨ (145 ≤ a ∧ a ≤ 157) := by decide
def RV (I0 J : IM) (m : Nat) : Prop := (∀ q k, ¬ RwP q k → J q k = I0 q k) ∧ J 106 78 = z32 (m : Int) ∧ (∀ a ∈ rwL, ofsM a + lnT a ≤ m → ∀ k, k < lnT a → J a k = I0 158 (ofsM a + k)) ∧ J 106 14 = I0 158 0 ∧ J 106 22 = I0 158 1 ∧ J 106 23 = I0 158 2 ∧ J 106 75 = I0 158 3
theorem rv_row {d : Nat} {D : DY} {K : IM → Prop} {I0 J : IM} {a m : Nat} (ha : a ∈ rwL) (hm : m = ofsM a) (h : RV I0 J m) (k : ∀ J2, RV I0 J2 (ofsM a + lnT a) → K J2) : CV (d + 1) 264 [vR (some 106), vR (some a), vI 1] (mm J D) K := by
  subst hm
  obtain ⟨r1, r2, r3, r4, r5, r6, r7, r8⟩ := rw_ok a ha
  have rp := rw_P a ha
  obtain ⟨s1, s2, s3, s4, s5, s6, s7⟩ := h
  have hk : ∀ G : IM, pKd (mm G D) a = 20 := fun G => (kd_s r2).trans r1
  have hl : ∀ G : IM, pLn (mm G D) a = lnT a := fun G => ln_s r2 (by omega)
  have loop : ∀ (g j : Nat) (G : IM), j + g = lnT a → (∀ q k, ¬ ((q = 106 ∧ k = 78) ∨ q = a) → G q k = J q k) → G 106 78 = z32 ((ofsM a + j : Nat) : Int) → (∀ i, i < j → G a i = J 158 (ofsM a + i)) → Wp GG (d + 1) 264 2 [vR (some 106), vR (some a), vI 1, vI (z32 (j : Int))] [] (mm G D) (qV (mm J D) K) := by
    intro g
    induction g with
    | zero =>
      intro j G hj f e c
      refine s_M_swapRow_2 _ _ _ (onR_i rfl (tsP_i (by rw [hk]; decide) ?_))
      rw [hl, show Int32.ofNat (lnT a) = z32 (lnT a : Int) from ofNat_z _]
      refine (brP_t (by rw [z32_le] <;> omega)).mpr ⟨_, rfl, rfl, k G ⟨fun q i h => (f q i (fun z => h (by unfold RwP; omega))).trans (s1 q i h), by rw [e]; congr 2; omega, fun b hb hle i hi => ?_, ?_, ?_, ?_, ?_⟩⟩
      · rcases rw_sep a ha b hb with w | w | w
        · subst w
          rw [c i (by omega), s1 _ _ (by unfold RwP; omega)]
        · by_cases z : b = a
          · subst z
            rw [c i (by omega), s1 _ _ (by unfold RwP; omega)]
          · have := (rw_ok b hb).2.2.1
            rw [f _ _ (by omega)]
            exact s3 b hb w i hi
        · have := (rw_ok b hb).2.2.2.2.2.2.1
          omega
      · rw [f _ _ (by omega)]; exact s4
      · rw [f _ _ (by omega)]; exact s5
      · rw [f _ _ (by omega)]; exact s6
      · rw [f _ _ (by omega)]; exact s7
    | succ g ih =>
      intro j G hj f e c
      have hin : inB (z32 (j : Int)) (lnT a) := inB_n (by omega) (by omega)
      refine s_M_swapRow_2 _ _ _ (onR_i rfl (tsP_i (by rw [hk]; decide) ?_))
      rw [hl, show Int32.ofNat (lnT a) = z32 (lnT a : Int) from ofNat_z _]
      refine (brP_f (by rw [z32_le] <;> omega)).mpr (onR_i rfl (tsP_i (hk G) (tsP_i (by rw [hl]; exact hin) ?_)))
      rw [ix_n (by omega), e_sw1 e (by omega)]
      refine onR_i rfl (tsP_i (hk _) (tsP_i (by rw [hl]; exact hin) ?_))
      rw [z32_s]
      have vj : G 158 (ofsM a + j) = J 158 (ofsM a + j) := f _ _ (by omega)
      refine ih (j + 1) _ (by omega) (fun q i h => ?_) (by rw [up2_ne (by omega), up2_eq]; rfl) (fun i hi => ?_)
      · rw [up2_if, if_neg (by omega), up2_if, if_neg (by omega)]
        exact f q i h
      · by_cases z : i = j
        · rw [z, up2_eq, vj]
        · rw [up2_nj z, up2_ne (by omega)]
          exact c i (by omega)
  exact s_M_swapRow _ _ (loop (lnT a) 0 J (Nat.zero_add _) (fun _ _ _ => rfl) s2 (fun i hi => absurd hi (Nat.not_lt_zero _)))
/-- formulas, saved -/
theorem sv_slots {d : Nat} {D : DY} {K : IM → Prop} {I0 M0 : IM} (hs : SLB I0) (k : ∀ J, (∀ q k, ¬ ((q = 109 ∧ 19600 ≤ k) ∨ (q = 110 ∧ 80 ≤ k)) → J q k = I0 q k) → SLB J → (∀ sl e, sl < 80 → FMc I0 sl e → FMc J (80 + sl) e) → K J) : Wp GG (d + 1) 262 365 [vR (some 106), vI 0, vI 0] [] (mm I0 D) (qV (mm M0 D) K) := by
  have loop : ∀ (g s : Nat) (J : IM), s + g = 80 → (∀ q k, ¬ ((q = 109 ∧ 19600 ≤ k) ∨ (q = 110 ∧ 80 ≤ k)) → J q k = I0 q k) → SLB J → (∀ sl e, sl < s → FMc I0 sl e → FMc J (80 + sl) e) → Wp GG (d + 1) 262 365 [vR (some 106), vI 0, vI (z32 (s : Int))] [] (mm J D) (qV (mm M0 D) K) := by
    intro g
    induction g with
    | zero =>
      intro s J hg f b c
      obtain rfl : s = 80 := by omega
      exact s_M_swapAll_365 _ _ ((brP_t (by decide)).mpr ⟨_, rfl, rfl, k J f b c⟩)
    | succ g ih =>
      intro s J hg f b c
      refine s_M_swapAll_365 _ _ ((brP_f (by show ¬ z32 80 ≤ _; rw [z32_le] <;> omega)).mpr ((brP_t rfl).mpr ?_))
      rw [show (80 : Int32) + z32 (s : Int) = z32 ((80 + s : Nat) : Int) from addn 80 s, z32_s]
      refine c_mcopy (a := s) b (by omega) (by omega) (by omega) (fun G g2 => ?_)
      have g1 := g2.1
      refine ih (s + 1) G (by omega) (fun q i h => (g1 q i (by omega)).trans (f q i h)) (g2.slb (by omega) b) (fun sl e hsl he => ?_)
      by_cases z : sl = s
      · subst z
        exact g2.fm (he.mv (fun i _ _ => f _ _ (by omega)) (f _ _ (by omega)))
      · exact (c sl e (by omega) he).mv (fun i _ _ => g1 _ _ (by omega)) (g1 _ _ (by omega))
  exact loop 80 0 I0 rfl (fun _ _ _ => rfl) hs (fun sl e h => absurd h (Nat.not_lt_zero _))
theorem rv_slots {d : Nat} {D : DY} {K : IM → Prop} {I0 M0 : IM} (hs : SLB I0) (k : ∀ J, (∀ q k, ¬ ((q = 109 ∧ k < 19600) ∨ (q = 110 ∧ k < 80)) → J q k = I0 q k) → SLB J → (∀ sl e, sl < 80 → FMc I0 (80 + sl) e → FMc J sl e) → K J) : Wp GG (d + 1) 262 365 [vR (some 106), vI 1, vI 0] [] (mm I0 D) (qV (mm M0 D) K) := by
  have loop : ∀ (g s : Nat) (J : IM), s + g = 80 → (∀ q k, ¬ ((q = 109 ∧ k < 19600) ∨ (q = 110 ∧ k < 80)) → J q k = I0 q k) → SLB J → (∀ sl e, sl < s → FMc I0 (80 + sl) e → FMc J sl e) → Wp GG (d + 1) 262 365 [vR (some 106), vI 1, vI (z32 (s : Int))] [] (mm J D) (qV (mm M0 D) K) := by
    intro g
    induction g with
    | zero =>
      intro s J hg f b c
      obtain rfl : s = 80 := by omega
      exact s_M_swapAll_365 _ _ ((brP_t (by decide)).mpr ⟨_, rfl, rfl, k J f b c⟩)
    | succ g ih =>
      intro s J hg f b c
      refine s_M_swapAll_365 _ _ ((brP_f (by show ¬ z32 80 ≤ _; rw [z32_le] <;> omega)).mpr ((brP_f (by decide)).mpr ?_))
      rw [show (80 : Int32) + z32 (s : Int) = z32 ((80 + s : Nat) : Int) from addn 80 s, z32_s]
      refine c_mcopy (a := 80 + s) b (by omega) (by omega) (by omega) (fun G g2 => ?_)
      have g1 := g2.1
      refine ih (s + 1) G (by omega) (fun q i h => (g1 q i (by omega)).trans (f q i h)) (g2.slb (by omega) b) (fun sl e hsl he => ?_)
      by_cases z : sl = s
      · subst z
        exact g2.fm (he.mv (fun i _ _ => f _ _ (by omega)) (f _ _ (by omega)))
      · exact (c sl e (by omega) he).mv (fun i _ _ => g1 _ _ (by omega)) (g1 _ _ (by omega))
  exact loop 80 0 I0 rfl (fun _ _ _ => rfl) hs (fun sl e h => absurd h (Nat.not_lt_zero _))
/-- what of a memory a store's relation reads -/
def RNG (q k : Nat) : Prop := (q = 106 ∧ (k = 14 ∨ k = 22 ∨ k = 23 ∨ k = 75)) ∨ (q ∈ rwL ∧ k < lnT q)
theorem rw_len : ∀ a ∈ rwL, lnT a = if a ≤ 118 then 241 else if a = 119 then 9 else if a = 120 then 8 else if a = 122 then 8 else if a ≤ 124 then 32 else if a = 125 then 7 else if a = 126 then 1000 else if a ≤ 140 then 8 else if a ≤ 142 then 72 else 4 := by decide +kernel
theorem RMS.rg {σ : SS} {G G2 : IM} (h : RMS σ G) (hf : ∀ q k, RNG q k → G2 q k = G q k) (hF : ∀ sl e, sl < 70 → FMc G sl e → FMc G2 sl e) : RMS σ G2 := by
  have r : ∀ a k n, a ∈ rwL → lnT a = n → k < n → G2 a k = G a k := fun a k n h1 h2 h3 => hf a k (Or.inr ⟨h1, by rw [h2]; exact h3⟩)
  have l6 : ∀ c, c < 6 → 113 + c ∈ rwL ∧ lnT (113 + c) = 241 := by decide +kernel
  have pr : ∀ c, c < 6 → 135 + c ∈ rwL ∧ lnT (135 + c) = 8 := by decide +kernel
  have po : ∀ c, c < 13 → 145 + c ∈ rwL ∧ lnT (145 + c) = 4 := by decide +kernel
  have pr' : ∀ q k, 135 ≤ q → q ≤ 140 → k < 8 → G2 q k = G q k := fun q k h1 h2 h3 => by
    obtain ⟨a, b⟩ := pr (q - 135) (by omega)
    rw [show 135 + (q - 135) = q by omega] at a b
    exact r q k 8 a b h3
  have po' : ∀ q k, 145 ≤ q → q ≤ 157 → k < 4 → G2 q k = G q k := fun q k h1 h2 h3 => by
    obtain ⟨a, b⟩ := po (q - 145) (by omega)
    rw [show 145 + (q - 145) = q by omega] at a b
    exact r q k 4 a b h3
  have cn : ∀ h sl c, sl < 70 → CNM G h sl c → CNM G2 h sl c := fun h sl c h1 h2 => h2.imp id (fun z => ⟨z.1, hF sl _ h1 z.2⟩)
  obtain ⟨⟨a1, a2, a3, a4⟩, ⟨c1, c2, c3, c4⟩, cN, cA, ⟨p1, p2⟩, cQ, cY, cD, cV, cH⟩ := h
  refine ⟨⟨(hf _ _ (Or.inl ⟨rfl, by omega⟩)).trans a1, a2, fun i e he c hc => ?_, fun s hs => ?_⟩, ⟨(hf _ _ (Or.inl ⟨rfl, by omega⟩)).trans c1, fun k hk => ?_, c3, fun k i c hk he => ?_⟩, fun s hs => ?_, fun k hk => ?_, ⟨fun w p hw hp => ?_, p2⟩, fun p hp => ?_, fun c hc => ?_, fun k hk => ?_, (hf _ _ (Or.inl ⟨rfl, by omega⟩)).trans cV, (hf _ _ (Or.inl ⟨rfl, by omega⟩)).trans cH⟩
  · have hi := (List.getElem?_eq_some_iff.mp he).1
    obtain ⟨x, y⟩ := l6 c hc
    rw [r _ _ _ x y (by omega)]
    exact a3 i e he c hc
  · rw [r 120 s 8 (by decide) (by decide +kernel) hs]
    exact a4 s hs
  · rw [r 119 k 9 (by decide) (by decide +kernel) hk]
    exact c2 k hk
  · have hi := c3.i3 hk he
    obtain ⟨x, y⟩ := c4 k i c hk he
    exact ⟨hF _ _ (by omega) x, hF _ _ (by omega) y⟩
  · obtain ⟨x, y, z⟩ := cN s hs
    refine ⟨(r 122 s 8 (by decide) (by decide +kernel) hs).trans x, y, fun j v hv => ?_⟩
    have hj := (List.getElem?_eq_some_iff.mp hv).1
    rw [r 123 _ 32 (by decide) (by decide +kernel) (by omega), r 124 _ 32 (by decide) (by decide +kernel) (by omega)]
    exact z j v hv
  · rw [r 126 k 1000 (by decide) (by decide +kernel) hk]
    exact cA k hk
  · have := p1 w p hw hp
    cases hz : zP σ w p with
    | none =>
      rw [hz] at this
      exact (pr' 135 _ (by omega) (by omega) (by omega)).trans this
    | some x =>
      rw [hz] at this
      obtain ⟨q0, ⟨q1, q2, q3, q4, q5⟩, q6, q7⟩ := this
      refine ⟨(pr' 135 _ (by omega) (by omega) (by omega)).trans q0, ⟨(pr' _ _ (by omega) (by omega) (by omega)).trans q1, (pr' _ _ (by omega) (by omega) (by omega)).trans q2, (pr' _ _ (by omega) (by omega) (by omega)).trans q3, ?_, (pr' _ _ (by omega) (by omega) (by omega)).trans q5⟩, fun k hk => ?_, q7⟩
      · rw [pr' 139 _ (by omega) (by omega) (by omega)]
        exact cn _ _ _ (by omega) q4
      · exact (q6 k hk).mv (r 141 _ 72 (by decide) (by decide +kernel) (by omega)) (r 142 _ 72 (by decide) (by decide +kernel) (by omega))
  · have := cQ p hp
    cases hz : zQ σ p with
    | none =>
      rw [hz] at this
      exact (po' 145 _ (by omega) (by omega) hp).trans this
    | some x =>
      rw [hz] at this
      obtain ⟨q0, ⟨q1, q2, q3, q4, q5⟩, ⟨q6, q7, q8⟩, q9⟩ := this
      refine ⟨(po' 145 _ (by omega) (by omega) hp).trans q0, ⟨(po' _ _ (by omega) (by omega) hp).trans q1, ?_, (po' _ _ (by omega) (by omega) hp).trans q3, (po' _ _ (by omega) (by omega) hp).trans q4, ?_⟩, ⟨(po' _ _ (by omega) (by omega) hp).trans q6, (po' _ _ (by omega) (by omega) hp).trans q7, (po' _ _ (by omega) (by omega) hp).trans q8⟩, q9⟩
      · rw [po' 147 _ (by omega) (by omega) hp]
        exact cn _ _ _ (by omega) q2
      · cases hk : (qlK x).2.2.2 with
        | none =>
          rw [hk] at q5
          exact ⟨(po' _ _ (by omega) (by omega) hp).trans q5.1, (po' _ _ (by omega) (by omega) hp).trans q5.2⟩
        | some c =>
          rw [hk] at q5
          exact ⟨(po' _ _ (by omega) (by omega) hp).trans q5.1, hF _ _ (by omega) q5.2⟩
  · exact (cY c hc).mv (fun q x y => po' q c (by omega) y hc)
  · rw [r 125 k 7 (by decide) (by decide +kernel) hk]
    exact cD k hk
section
variable {d : Nat} {I : IM} {D : DY} {τ : ST}
theorem q_image {K : Int32 → IM → Prop} (h : RM τ I) (k : ∀ I2, FrC I I2 → RM (S_image τ).1 I2 → K (S_image τ).2 I2) : CI (d + 100) 261 [vR (some 106)] (mm I D) K := by
  have k : ∀ J, FrC I J → RM (tT τ, tS τ, some (tS τ)) J → K (z32 ((zL (tS τ)).length : Int)) J := k
  refine s_M_image (s_M_swapAll _ ?_)
  have fA : ∀ q k, ¬ (q = 106 ∧ k = 76) → up2 I 106 76 1 q k = I q k := fun q k e => by rw [up2_if, if_neg e]
  generalize hA : up2 I 106 76 1 = A at *
  have a76 : A 106 76 = 1 := by rw [← hA, up2_eq]
  have e0 : up2 A 106 78 0 106 78 = z32 ((0 : Nat) : Int) := up2_eq
  rw [e_sw0 e0 (by omega)]
  generalize hB : up2 (up2 (up2 (up2 A 106 78 0) 158 0 (A 106 14)) 106 78 (z32 ((0 + 1 : Nat) : Int))) 106 14 (A 106 14) = B
  have b78 : B 106 78 = z32 ((1 : Nat) : Int) := by rw [← hB, up2_nj (by omega), up2_eq]
  have fB : ∀ q k, ¬ ((q = 106 ∧ k = 78) ∨ (q = 158 ∧ k = 0)) → B q k = A q k := fun q k e => by
    rw [← hB]
    by_cases z : q = 106 ∧ k = 14
    · rw [z.1, z.2, up2_eq]
    · rw [up2_if, if_neg z, up2_if, if_neg (by omega), up2_if, if_neg (by omega), up2_if, if_neg (by omega)]
  have vB : B 158 0 = A 106 14 := by rw [← hB, up2_ne (by omega), up2_ne (by omega), up2_eq]
  have w22 : up2 (up2 (up2 A 106 78 0) 158 0 (A 106 14)) 106 78 (z32 ((0 + 1 : Nat) : Int)) 106 22 = A 106 22 := by rw [up2_nj (by omega), up2_ne (by omega), up2_nj (by omega)]
  first
    | rw [show up2 A 106 78 0 106 14 = A 106 14 from up2_nj (by omega)]
    | skip
  rw [w22, e_sw0 b78 (by omega)]
  generalize hC : up2 (up2 (up2 B 158 1 (A 106 22)) 106 78 (z32 ((1 + 1 : Nat) : Int))) 106 22 (A 106 22) = C
  have c78 : C 106 78 = z32 ((2 : Nat) : Int) := by rw [← hC, up2_nj (by omega), up2_eq]
  have fC : ∀ q k, ¬ ((q = 106 ∧ k = 78) ∨ (q = 158 ∧ k ≤ 1)) → C q k = A q k := fun q k e => by
    rw [← hC]
    by_cases z : q = 106 ∧ k = 22
    · rw [z.1, z.2, up2_eq]
    · rw [up2_if, if_neg z, up2_if, if_neg (by omega), up2_if, if_neg (by omega)]
      exact fB q k (by omega)
  have vC : C 158 0 = A 106 14 ∧ C 158 1 = A 106 22 := ⟨by rw [← hC, up2_ne (by omega), up2_ne (by omega), up2_nj (by omega), vB], by rw [← hC, up2_ne (by omega), up2_ne (by omega), up2_eq]⟩
  have w23 : up2 (up2 B 158 1 (A 106 22)) 106 78 (z32 ((1 + 1 : Nat) : Int)) 106 23 = A 106 23 := by rw [up2_nj (by omega), up2_ne (by omega), fB _ _ (by omega)]
  rw [w23, e_sw0 c78 (by omega)]
  generalize hE : up2 (up2 (up2 C 158 2 (A 106 23)) 106 78 (z32 ((2 + 1 : Nat) : Int))) 106 23 (A 106 23) = E
  have e78 : E 106 78 = z32 ((3 : Nat) : Int) := by rw [← hE, up2_nj (by omega), up2_eq]
  have fE : ∀ q k, ¬ ((q = 106 ∧ k = 78) ∨ (q = 158 ∧ k ≤ 2)) → E q k = A q k := fun q k e => by
    rw [← hE]
    by_cases z : q = 106 ∧ k = 23
    · rw [z.1, z.2, up2_eq]
    · rw [up2_if, if_neg z, up2_if, if_neg (by omega), up2_if, if_neg (by omega)]
      exact fC q k (by omega)
  have vE : E 158 0 = A 106 14 ∧ E 158 1 = A 106 22 ∧ E 158 2 = A 106 23 := ⟨by rw [← hE, up2_ne (by omega), up2_ne (by omega), up2_nj (by omega), vC.1], by rw [← hE, up2_ne (by omega), up2_ne (by omega), up2_nj (by omega), vC.2], by rw [← hE, up2_ne (by omega), up2_ne (by omega), up2_eq]⟩
  have w75 : up2 (up2 C 158 2 (A 106 23)) 106 78 (z32 ((2 + 1 : Nat) : Int)) 106 75 = A 106 75 := by rw [up2_nj (by omega), up2_ne (by omega), fC _ _ (by omega)]
  rw [w75, e_sw0 e78 (by omega)]
  generalize hH : up2 (up2 (up2 E 158 3 (A 106 75)) 106 78 (z32 ((3 + 1 : Nat) : Int))) 106 75 (A 106 75) = H
  have h0 : SV A H 4 := by
    refine ⟨fun q k e => ?_, by rw [← hH, up2_nj (by omega), up2_eq], fun a ha hle => ?_, ?_, ?_, ?_, ?_⟩
    · rw [← hH]
      by_cases z : q = 106 ∧ k = 75
      · rw [z.1, z.2, up2_eq]
      · rw [up2_if, if_neg z, up2_if, if_neg (by omega), up2_if, if_neg (by omega)]
        exact fE q k (by omega)
    · have := rw_ok a ha
      omega
    · rw [← hH, up2_ne (by omega), up2_ne (by omega), up2_nj (by omega), vE.1]
    · rw [← hH, up2_ne (by omega), up2_ne (by omega), up2_nj (by omega), vE.2.1]
    · rw [← hH, up2_ne (by omega), up2_ne (by omega), up2_nj (by omega), vE.2.2]
    · rw [← hH, up2_ne (by omega), up2_ne (by omega), up2_eq]
  refine sv_row (d := d + 97) (a := 113) (by decide) (by decide +kernel) h0 (fun J1 h1 => ?_)
  refine sv_row (d := d + 97) (a := 114) (by decide) (by decide +kernel) h1 (fun J2 h2 => ?_)
  refine sv_row (d := d + 97) (a := 115) (by decide) (by decide +kernel) h2 (fun J3 h3 => ?_)
  refine sv_row (d := d + 97) (a := 116) (by decide) (by decide +kernel) h3 (fun J4 h4 => ?_)
  refine sv_row (d := d + 97) (a := 117) (by decide) (by decide +kernel) h4 (fun J5 h5 => ?_)
  refine sv_row (d := d + 97) (a := 118) (by decide) (by decide +kernel) h5 (fun J6 h6 => ?_)
  refine sv_row (d := d + 97) (a := 119) (by decide) (by decide +kernel) h6 (fun J7 h7 => ?_)
  refine sv_row (d := d + 97) (a := 120) (by decide) (by decide +kernel) h7 (fun J8 h8 => ?_)
  refine sv_row (d := d + 97) (a := 122) (by decide) (by decide +kernel) h8 (fun J9 h9 => ?_)
  refine sv_row (d := d + 97) (a := 123) (by decide) (by decide +kernel) h9 (fun J10 h10 => ?_)
  refine sv_row (d := d + 97) (a := 124) (by decide) (by decide +kernel) h10 (fun J11 h11 => ?_)
  refine sv_row (d := d + 97) (a := 126) (by decide) (by decide +kernel) h11 (fun J12 h12 => ?_)
  refine sv_row (d := d + 97) (a := 125) (by decide) (by decide +kernel) h12 (fun J13 h13 => ?_)
  refine sv_row (d := d + 97) (a := 135) (by decide) (by decide +kernel) h13 (fun J14 h14 => ?_)
  refine sv_row (d := d + 97) (a := 136) (by decide) (by decide +kernel) h14 (fun J15 h15 => ?_)
  refine sv_row (d := d + 97) (a := 137) (by decide) (by decide +kernel) h15 (fun J16 h16 => ?_)
  refine sv_row (d := d + 97) (a := 138) (by decide) (by decide +kernel) h16 (fun J17 h17 => ?_)
  refine sv_row (d := d + 97) (a := 139) (by decide) (by decide +kernel) h17 (fun J18 h18 => ?_)
  refine sv_row (d := d + 97) (a := 140) (by decide) (by decide +kernel) h18 (fun J19 h19 => ?_)
  refine sv_row (d := d + 97) (a := 141) (by decide) (by decide +kernel) h19 (fun J20 h20 => ?_)
  refine sv_row (d := d + 97) (a := 142) (by decide) (by decide +kernel) h20 (fun J21 h21 => ?_)
  refine sv_row (d := d + 97) (a := 145) (by decide) (by decide +kernel) h21 (fun J22 h22 => ?_)
  refine sv_row (d := d + 97) (a := 146) (by decide) (by decide +kernel) h22 (fun J23 h23 => ?_)
  refine sv_row (d := d + 97) (a := 147) (by decide) (by decide +kernel) h23 (fun J24 h24 => ?_)
  refine sv_row (d := d + 97) (a := 148) (by decide) (by decide +kernel) h24 (fun J25 h25 => ?_)
  refine sv_row (d := d + 97) (a := 149) (by decide) (by decide +kernel) h25 (fun J26 h26 => ?_)
  refine sv_row (d := d + 97) (a := 150) (by decide) (by decide +kernel) h26 (fun J27 h27 => ?_)
  refine sv_row (d := d + 97) (a := 151) (by decide) (by decide +kernel) h27 (fun J28 h28 => ?_)
  refine sv_row (d := d + 97) (a := 152) (by decide) (by decide +kernel) h28 (fun J29 h29 => ?_)
  refine sv_row (d := d + 97) (a := 153) (by decide) (by decide +kernel) h29 (fun J30 h30 => ?_)
  refine sv_row (d := d + 97) (a := 154) (by decide) (by decide +kernel) h30 (fun J31 h31 => ?_)
  refine sv_row (d := d + 97) (a := 155) (by decide) (by decide +kernel) h31 (fun J32 h32 => ?_)
  refine sv_row (d := d + 97) (a := 156) (by decide) (by decide +kernel) h32 (fun J33 h33 => ?_)
  refine sv_row (d := d + 97) (a := 157) (by decide) (by decide +kernel) h33 (fun J34 h34 => ?_)
  obtain ⟨s1, s2, s3, s4, s5, s6, s7⟩ := h34
  have f34 : ∀ q k, ¬ ((q = 106 ∧ (k = 78 ∨ k = 76)) ∨ q = 158) → J34 q k = I q k := fun q k e => (s1 q k (by omega)).trans (fA q k (by omega))
  have t34 : TPm J34 (tT τ) := h.1.fr (f34 _ _ (by omega)) (fun k => f34 _ _ (by omega))
  refine sv_slots (d := d + 98) (M0 := A) t34.2.2.2.2 (fun G g1 gs g2 => qI_i ?_)
  have fG : ∀ q k, ¬ ((q = 106 ∧ (k = 78 ∨ k = 76)) ∨ q = 158 ∨ (q = 109 ∧ 19600 ≤ k) ∨ (q = 110 ∧ 80 ≤ k)) → G q k = I q k := fun q k e => (g1 q k (by omega)).trans (f34 q k (by omega))
  rw [fG 106 14 (by omega), h.E.1]
  have hR := h.2.2.1
  have tG : TPm G (tT τ) := t34.fb (g1 _ _ (by omega)) (fun k => g1 _ _ (by omega)) gs
  refine k G (fun q k e => fG q k (by omega)) ⟨tG, h.2.1.fr (fun k => fG _ _ (by omega)), ?_, ?_, ?_⟩
  · obtain ⟨cE, cC, cN, cA, cP2, cQ, cY, cD, cV, cH⟩ := hR
    exact ⟨cE.mv (fun q j z => fG q j (by unfold ZE at z; omega)), cC.mv (fun q j z => fG q j (by unfold ZC at z; omega)), cN.mv (fun q j z => fG q j (by unfold ZS at z; omega)), fun j hj => (fG _ _ (by omega)).trans (cA j hj), cP2.mv (fun q j z => fG q j (by unfold ZP at z; omega)), cQ.mv (fun q j z => fG q j (by unfold ZQ at z; omega)), cY.mv (fun q j z => fG q j (by unfold ZY at z; omega)), fun j hj => (fG _ _ (by omega)).trans (cD j hj), (fG _ _ (by omega)).trans cV, (fG _ _ (by omega)).trans cH⟩
  · rw [g1 _ _ (by omega), s1 _ _ (by omega)]
    exact a76
  · refine hR.rg (fun q j z => ?_) (fun sl e hsl he => ?_)
    · rcases z with ⟨rfl, z⟩ | ⟨z1, z2⟩
      · rcases z with rfl | rfl | rfl | rfl
        · show G 158 0 = _
          rw [g1 _ _ (by omega), s4, fA _ _ (by omega)]
        · show G 158 1 = _
          rw [g1 _ _ (by omega), s5, fA _ _ (by omega)]
        · show G 158 2 = _
          rw [g1 _ _ (by omega), s6, fA _ _ (by omega)]
        · show G 158 3 = _
          rw [g1 _ _ (by omega), s7, fA _ _ (by omega)]
      · obtain ⟨r1, r2, r3, r4, r5, r6, r7, r8⟩ := rw_ok q z1
        have rp := rw_P q z1
        have ev : VM G q j = G 158 (ofsM q + j) := by
          unfold VM
          rw [if_neg (by omega), if_neg (by omega), if_neg (by omega)]
        rw [ev, g1 _ _ (by omega), s3 q z1 (by show ofsM q + lnT q ≤ 2790; omega) j z2, fA _ _ (by omega)]
    · have e34 : FMc J34 sl e := he.mv (fun i _ _ => f34 _ _ (by omega)) (f34 _ _ (by omega))
      obtain ⟨x1, x2, x3⟩ := g2 sl e (by omega) e34
      refine ⟨?_, x2, fun j hj => ?_⟩
      · show G 110 (sl + 80) = _
        rw [Nat.add_comm]
        exact x1
      · show G 109 (245 * sl + j + 19600) = _
        rw [show 245 * sl + j + 19600 = 245 * (80 + sl) + j by omega]
        exact x3 j hj
theorem q_back {K : Int32 → IM → Prop} (h : RM τ I) (k : ∀ I2, FrC I I2 → RM (S_back τ).1 I2 → K (S_back τ).2 I2) : CI (d + 100) 265 [vR (some 106)] (mm I D) K := by
  unfold S_back at k
  refine s_M_back ?_
  have hI := h.2.2.2
  cases hz : tI τ with
  | none =>
    rw [hz] at hI k
    have hI : I 106 76 = 0 := hI
    exact (brP_f (by rw [hI]; decide)).mpr (qI_i (k I FrC.rf h))
  | some κ =>
    rw [hz] at hI k
    obtain ⟨i76, hR⟩ := hI
    have k : ∀ J, FrC I J → RM (tT τ, κ, some κ) J → K (z32 ((zL κ).length : Int)) J := k
    refine (brP_t (by rw [i76]; decide)).mpr (s_M_swapAll _ ?_)
    have e0 : up2 I 106 78 0 106 78 = z32 ((0 : Nat) : Int) := up2_eq
    rw [e_sw1 e0 (by omega)]
    have w0 : up2 I 106 78 0 158 0 = I 158 0 := up2_ne (by omega)
    rw [w0]
    generalize hB : up2 (up2 (up2 I 106 78 0) 106 78 (z32 ((0 + 1 : Nat) : Int))) 106 14 (I 158 0) = B
    have b78 : B 106 78 = z32 ((1 : Nat) : Int) := by rw [← hB, up2_nj (by omega), up2_eq]
    have fB : ∀ q k, ¬ (q = 106 ∧ (k = 78 ∨ k = 14)) → B q k = I q k := fun q k e => by
      rw [← hB, up2_if, if_neg (by omega), up2_if, if_neg (by omega), up2_if, if_neg (by omega)]
    have vB : B 106 14 = I 158 0 := by rw [← hB, up2_eq]
    rw [e_sw1 b78 (by omega), fB 158 1 (by omega)]
    generalize hC : up2 (up2 B 106 78 (z32 ((1 + 1 : Nat) : Int))) 106 22 (I 158 1) = C
    have c78 : C 106 78 = z32 ((2 : Nat) : Int) := by rw [← hC, up2_nj (by omega), up2_eq]
    have fC : ∀ q k, ¬ (q = 106 ∧ (k = 78 ∨ k = 22)) → C q k = B q k := fun q k e => by
      rw [← hC, up2_if, if_neg (by omega), up2_if, if_neg (by omega)]
    have vC : C 106 22 = I 158 1 := by rw [← hC, up2_eq]
    rw [e_sw1 c78 (by omega), fC 158 2 (by omega), fB 158 2 (by omega)]
    generalize hE : up2 (up2 C 106 78 (z32 ((2 + 1 : Nat) : Int))) 106 23 (I 158 2) = E
    have e78 : E 106 78 = z32 ((3 : Nat) : Int) := by rw [← hE, up2_nj (by omega), up2_eq]
    have fE : ∀ q k, ¬ (q = 106 ∧ (k = 78 ∨ k = 23)) → E q k = C q k := fun q k e => by
      rw [← hE, up2_if, if_neg (by omega), up2_if, if_neg (by omega)]
    have vE : E 106 23 = I 158 2 := by rw [← hE, up2_eq]
    rw [e_sw1 e78 (by omega), fE 158 3 (by omega), fC 158 3 (by omega), fB 158 3 (by omega)]
    generalize hH : up2 (up2 E 106 78 (z32 ((3 + 1 : Nat) : Int))) 106 75 (I 158 3) = H
    have fH : ∀ q k, ¬ (q = 106 ∧ (k = 78 ∨ k = 75)) → H q k = E q k := fun q k e => by
      rw [← hH, up2_if, if_neg (by omega), up2_if, if_neg (by omega)]
    have h0 : RV I H 4 := by
      refine ⟨fun q k e => ?_, by rw [← hH, up2_nj (by omega), up2_eq], fun a ha hle => ?_, ?_, ?_, ?_, by rw [← hH, up2_eq]⟩
      · unfold RwP at e
        rw [fH q k (by omega), fE q k (by omega), fC q k (by omega), fB q k (by omega)]
      · have := rw_ok a ha
        omega
      · rw [fH _ _ (by omega), fE _ _ (by omega), fC _ _ (by omega), vB]
      · rw [fH _ _ (by omega), fE _ _ (by omega), vC]
      · rw [fH _ _ (by omega), vE]
    refine rv_row (d := d + 97) (a := 113) (by decide) (by decide +kernel) h0 (fun J1 h1 => ?_)
    refine rv_row (d := d + 97) (a := 114) (by decide) (by decide +kernel) h1 (fun J2 h2 => ?_)
    refine rv_row (d := d + 97) (a := 115) (by decide) (by decide +kernel) h2 (fun J3 h3 => ?_)
    refine rv_row (d := d + 97) (a := 116) (by decide) (by decide +kernel) h3 (fun J4 h4 => ?_)
    refine rv_row (d := d + 97) (a := 117) (by decide) (by decide +kernel) h4 (fun J5 h5 => ?_)
    refine rv_row (d := d + 97) (a := 118) (by decide) (by decide +kernel) h5 (fun J6 h6 => ?_)
    refine rv_row (d := d + 97) (a := 119) (by decide) (by decide +kernel) h6 (fun J7 h7 => ?_)
    refine rv_row (d := d + 97) (a := 120) (by decide) (by decide +kernel) h7 (fun J8 h8 => ?_)
    refine rv_row (d := d + 97) (a := 122) (by decide) (by decide +kernel) h8 (fun J9 h9 => ?_)
    refine rv_row (d := d + 97) (a := 123) (by decide) (by decide +kernel) h9 (fun J10 h10 => ?_)
    refine rv_row (d := d + 97) (a := 124) (by decide) (by decide +kernel) h10 (fun J11 h11 => ?_)
    refine rv_row (d := d + 97) (a := 126) (by decide) (by decide +kernel) h11 (fun J12 h12 => ?_)
    refine rv_row (d := d + 97) (a := 125) (by decide) (by decide +kernel) h12 (fun J13 h13 => ?_)
    refine rv_row (d := d + 97) (a := 135) (by decide) (by decide +kernel) h13 (fun J14 h14 => ?_)
    refine rv_row (d := d + 97) (a := 136) (by decide) (by decide +kernel) h14 (fun J15 h15 => ?_)
    refine rv_row (d := d + 97) (a := 137) (by decide) (by decide +kernel) h15 (fun J16 h16 => ?_)
    refine rv_row (d := d + 97) (a := 138) (by decide) (by decide +kernel) h16 (fun J17 h17 => ?_)
    refine rv_row (d := d + 97) (a := 139) (by decide) (by decide +kernel) h17 (fun J18 h18 => ?_)
    refine rv_row (d := d + 97) (a := 140) (by decide) (by decide +kernel) h18 (fun J19 h19 => ?_)
    refine rv_row (d := d + 97) (a := 141) (by decide) (by decide +kernel) h19 (fun J20 h20 => ?_)
    refine rv_row (d := d + 97) (a := 142) (by decide) (by decide +kernel) h20 (fun J21 h21 => ?_)
    refine rv_row (d := d + 97) (a := 145) (by decide) (by decide +kernel) h21 (fun J22 h22 => ?_)
    refine rv_row (d := d + 97) (a := 146) (by decide) (by decide +kernel) h22 (fun J23 h23 => ?_)
    refine rv_row (d := d + 97) (a := 147) (by decide) (by decide +kernel) h23 (fun J24 h24 => ?_)
    refine rv_row (d := d + 97) (a := 148) (by decide) (by decide +kernel) h24 (fun J25 h25 => ?_)
    refine rv_row (d := d + 97) (a := 149) (by decide) (by decide +kernel) h25 (fun J26 h26 => ?_)
    refine rv_row (d := d + 97) (a := 150) (by decide) (by decide +kernel) h26 (fun J27 h27 => ?_)
    refine rv_row (d := d + 97) (a := 151) (by decide) (by decide +kernel) h27 (fun J28 h28 => ?_)
    refine rv_row (d := d + 97) (a := 152) (by decide) (by decide +kernel) h28 (fun J29 h29 => ?_)
    refine rv_row (d := d + 97) (a := 153) (by decide) (by decide +kernel) h29 (fun J30 h30 => ?_)
    refine rv_row (d := d + 97) (a := 154) (by decide) (by decide +kernel) h30 (fun J31 h31 => ?_)
    refine rv_row (d := d + 97) (a := 155) (by decide) (by decide +kernel) h31 (fun J32 h32 => ?_)
    refine rv_row (d := d + 97) (a := 156) (by decide) (by decide +kernel) h32 (fun J33 h33 => ?_)
    refine rv_row (d := d + 97) (a := 157) (by decide) (by decide +kernel) h33 (fun J34 h34 => ?_)
    obtain ⟨s1, s2, s3, s4, s5, s6, s7⟩ := h34
    have t34 : TPm J34 (tT τ) := h.1.fr (s1 _ _ (by unfold RwP; omega)) (fun k => s1 _ _ (by unfold RwP; omega))
    refine rv_slots (d := d + 98) (M0 := I) t34.2.2.2.2 (fun G g1 gs g2 => qI_i ?_)
    have tG : TPm G (tT τ) := t34.fb (g1 _ _ (by omega)) (fun k => g1 _ _ (by omega)) gs
    have fG : ∀ q k, ¬ (RwP q k ∨ (q = 109 ∧ k < 19600) ∨ (q = 110 ∧ k < 80)) → G q k = I q k := fun q k e => (g1 q k (fun z => e (Or.inr z))).trans (s1 q k (fun z => e (Or.inl z)))
    have rR : RMS κ G := by
      refine hR.rg (fun q j z => ?_) (fun sl e hsl he => ?_)
      · rcases z with ⟨rfl, z⟩ | ⟨z1, z2⟩
        · rcases z with rfl | rfl | rfl | rfl
          · rw [g1 _ _ (by omega)]; exact s4
          · rw [g1 _ _ (by omega)]; exact s5
          · rw [g1 _ _ (by omega)]; exact s6
          · rw [g1 _ _ (by omega)]; exact s7
        · obtain ⟨r1, r2, r3, r4, r5, r6, r7, r8⟩ := rw_ok q z1
          have rp := rw_P q z1
          have ev : VM I q j = I 158 (ofsM q + j) := by
            unfold VM
            rw [if_neg (by omega), if_neg (by omega), if_neg (by omega)]
          rw [ev, g1 _ _ (by omega), s3 q z1 (by show ofsM q + lnT q ≤ 2790; omega) j z2]
      · refine g2 sl e (by omega) ?_
        obtain ⟨x1, x2, x3⟩ := he
        refine ⟨?_, x2, fun j hj => ?_⟩
        · rw [s1 _ _ (by unfold RwP; omega), Nat.add_comm]
          exact x1
        · rw [s1 _ _ (by unfold RwP; omega), ← x3 j hj]
          show _ = I 109 (245 * sl + j + 19600)
          congr 1
          omega
    have e14 : G 106 14 = z32 ((zL κ).length : Int) := rR.1.1
    rw [e14]
    exact k G (fun q k e => fG q k (by unfold RwP; omega)) ⟨tG, h.2.1.fr (fun k => fG _ _ (by unfold RwP; omega)), rR, (fG _ _ (by unfold RwP; omega)).trans i76, by
      rw [show VM G = VM I from VM.eq (fun k => fG _ _ (by unfold RwP; omega)) (fun k hk => fG _ _ (by unfold RwP; omega)) (fun k hk => fG _ _ (by unfold RwP; omega))]
      exact hR⟩
end
