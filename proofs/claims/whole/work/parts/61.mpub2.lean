/-! The model's calls: snapshots taken, positions, worths, tallies, counts. -/
section
variable {d : Nat} {I : IM} {D : DY} {τ : ST}
theorem get_drop {α : Type} {l : List α} {j : Nat} {x : α} {t : List α} (h : l.drop j = x :: t) : j < l.length ∧ l[j]? = some x ∧ l.drop (j + 1) = t := by
  have hj : j < l.length := by
    rcases Nat.lt_or_ge j l.length with q | q
    · exact q
    · rw [List.drop_eq_nil_of_le q] at h
      cases h
  refine ⟨hj, ?_, by rw [← List.drop_drop, h]; rfl⟩
  rw [List.drop_eq_getElem_cons hj] at h
  injection h with h1 h2
  rw [List.getElem?_eq_getElem hj, h1]
theorem snap_shift {Q : Option PV → PM → Prop} {s : Nat} {I0 : IM} (hs : s < 8)
    (k : ∀ J, (∀ q k, ¬ ((q = 123 ∨ q = 124) ∧ 4 * s ≤ k ∧ k < 4 * s + 3) → J q k = I0 q k) → (∀ j, j < 3 → J 123 (4 * s + j) = I0 123 (4 * s + j + 1) ∧ J 124 (4 * s + j) = I0 124 (4 * s + j + 1)) → Wp GG d 203 16 [vR (some 106), vI (z32 (s : Int)), vI (z32 ((4 * s : Nat) : Int)), vI 4] [] (mm J D) Q) :
    ∀ (g i : Nat) (J : IM), i + g = 4 → 1 ≤ i → (∀ q k, ¬ ((q = 123 ∨ q = 124) ∧ 4 * s ≤ k ∧ k < 4 * s + 3) → J q k = I0 q k) → (∀ j, j + 1 < i → J 123 (4 * s + j) = I0 123 (4 * s + j + 1) ∧ J 124 (4 * s + j) = I0 124 (4 * s + j + 1)) → (∀ j, i ≤ j + 1 → j < 4 → J 123 (4 * s + j) = I0 123 (4 * s + j) ∧ J 124 (4 * s + j) = I0 124 (4 * s + j)) →
    Wp GG d 203 16 [vR (some 106), vI (z32 (s : Int)), vI (z32 ((4 * s : Nat) : Int)), vI (z32 (i : Int))] [] (mm J D) Q := by
  intro g
  induction g with
  | zero =>
    intro i J hi h1 f a b
    obtain rfl : i = 4 := by omega
    exact k J f (fun j hj => a j (by omega))
  | succ g ih =>
    intro i J hi h1 f a b
    have e1 : z32 ((4 * s : Nat) : Int) + z32 (i : Int) - 1 = z32 ((4 * s + (i - 1) : Nat) : Int) := by
      rw [addn]
      show _ - z32 1 = _
      rw [z32_sub]
      congr 1
      omega
    refine s_M_takeSnap_16 _ _ _ ((brP_f (by show ¬ z32 4 ≤ _; rw [z32_le] <;> omega)).mpr ?_)
    rw [e1, addn]
    have hb1 : inB (z32 ((4 * s + i : Nat) : Int)) 32 := inB_n (by omega) (by omega)
    have hb2 : inB (z32 ((4 * s + (i - 1) : Nat) : Int)) 32 := inB_n (by omega) (by omega)
    refine tsP_i hb1 (tsP_i hb2 (tsP_i hb1 (tsP_i hb2 ?_)))
    rw [ix_n (by omega), ix_n (by omega), z32_s]
    obtain ⟨b1, b2⟩ := b i (by omega) (by omega)
    refine ih (i + 1) _ (by omega) (by omega) (fun q k c => ?_) (fun j hj => ?_) (fun j h1 h2 => ?_)
    · rw [up2_if, if_neg (by omega), up2_if, if_neg (by omega), f q k c]
    · by_cases e : j + 1 = i
      · have ej : i - 1 = j := by omega
        rw [ej, up2_ne (by omega), up2_eq, up2_eq, b1, b2]
        subst e
        exact ⟨rfl, rfl⟩
      · obtain ⟨a1, a2⟩ := a j (by omega)
        rw [up2_ne (by omega), up2_nj (by omega), up2_nj (by omega), up2_ne (by omega)]
        exact ⟨a1, a2⟩
    · obtain ⟨a1, a2⟩ := b j (by omega) h2
      rw [up2_ne (by omega), up2_nj (by omega), up2_nj (by omega), up2_ne (by omega)]
      exact ⟨a1, a2⟩
theorem c_mtake {K : IM → Prop} {S : SN} {s v er : Nat} (hN : SNM I S) (hs : s < 8) (h1 : I 120 s = z32 (v : Int)) (hv : v ≤ 240) (h2 : I 106 22 = z32 (er : Int)) (her : er ≤ 27) (k : ∀ I2, (∀ q k, ¬ ZS q → I2 q k = I q k) → SNM I2 (addS S s v er) → K I2) : CV d 203 [vR (some 106), vI (z32 (s : Int))] (mm I D) K := by
  obtain ⟨n1, n2, n3⟩ := hN s hs
  have hp : inB (z32 (s : Int)) 8 := inB_n hs (by omega)
  have ixs : ixN (z32 (s : Int)) = s := ix_n (by omega)
  -- what is, when a place is free
  have core : ∀ (J : IM) (l : List (Nat × Nat)) (n : Nat), l.length = n → n < 4 → (∀ q k, ¬ ZS q → J q k = I q k) → (∀ t, t < 8 → t ≠ s → J 122 t = I 122 t ∧ ∀ j, j < 4 → J 123 (4 * t + j) = I 123 (4 * t + j) ∧ J 124 (4 * t + j) = I 124 (4 * t + j)) →
      (∀ j x, l[j]? = some x → J 123 (4 * s + j) = z32 (x.1 : Int) ∧ J 124 (4 * s + j) = z32 (x.2 : Int) ∧ x.1 ≤ 240 ∧ x.2 ≤ 27) → addS S s v er = updF S s (l ++ [(v, er)]) →
      K (up2 (up2 (up2 J 123 (4 * s + n) (z32 (v : Int))) 124 (4 * s + n) (z32 (er : Int))) 122 s (z32 ((n + 1 : Nat) : Int))) := fun J l n hl hn f o m e => by
    refine k _ (fun q k c => ?_) (fun t ht => ?_)
    · rw [up2_if, if_neg (by unfold ZS at c; omega), up2_if, if_neg (by unfold ZS at c; omega), up2_if, if_neg (by unfold ZS at c; omega), f q k c]
    · rw [e]
      by_cases q : t = s
      · subst q
        have e1 : updF S t (l ++ [(v, er)]) t = l ++ [(v, er)] := if_pos rfl
        have hl2 : (l ++ [(v, er)]).length = n + 1 := by rw [List.length_append, hl]; rfl
        rw [e1]
        refine ⟨by rw [up2_eq, hl2], by omega, fun j x hx => ?_⟩
        rcases Nat.lt_or_ge j l.length with c | c
        · rw [List.getElem?_append_left c] at hx
          obtain ⟨m1, m2, m3⟩ := m j x hx
          rw [up2_ne (by omega), up2_ne (by omega), up2_nj (by omega), up2_ne (by omega), up2_nj (by omega), up2_ne (by omega)]
          exact ⟨m1, m2, m3⟩
        · have hj : j = l.length := by
            have := (List.getElem?_eq_some_iff.mp hx).1
            omega
          subst hj
          rw [List.getElem?_append_right (Nat.le_refl _), Nat.sub_self] at hx
          cases hx
          rw [hl, up2_ne (by omega), up2_ne (by omega), up2_eq, up2_ne (by omega), up2_eq]
          exact ⟨rfl, rfl, hv, her⟩
      · have e1 : updF S s (l ++ [(v, er)]) t = S t := if_neg q
        rw [e1]
        obtain ⟨a1, a2, a3⟩ := hN t ht
        obtain ⟨o1, o2⟩ := o t ht q
        refine ⟨by rw [up2_nj q, up2_ne (by omega), up2_ne (by omega), o1]; exact a1, a2, fun j x hx => ?_⟩
        have hj := (List.getElem?_eq_some_iff.mp hx).1
        obtain ⟨b1, b2⟩ := o2 j (by omega)
        rw [up2_ne (by omega), up2_ne (by omega), up2_nj (by omega), up2_ne (by omega), up2_nj (by omega), up2_ne (by omega), b1, b2]
        exact a3 j x hx
  refine s_M_takeSnap _ (tsP_i hp ?_)
  rw [ixs, n1, mul4]
  refine brP_i (fun q => ?_) (fun q => ?_)
  · have hlt : (S s).length < 4 := by
      rcases Nat.lt_or_ge (S s).length 4 with c | c
      · exact c
      · exact absurd (by rw [show (S s).length = 4 by omega]; rfl) q
    rw [addn]
    have hb : inB (z32 ((4 * s + (S s).length : Nat) : Int)) 32 := inB_n (by omega) (by omega)
    refine tsP_i hp (tsP_i hp (tsP_i hb (tsP_i hp (tsP_i hb (tsP_i hp (tsP_i hp (qV_i ?_)))))))
    rw [ix_n (by omega), h1, h2, z32_s]
    refine core I (S s) (S s).length rfl hlt (fun _ _ _ => rfl) (fun t _ _ => ⟨rfl, fun j _ => ⟨rfl, rfl⟩⟩) n3 ?_
    unfold addS
    rw [if_neg (by omega)]
  · have q : z32 ((S s).length : Int) = z32 4 := Classical.not_not.mp q
    rw [z32_inj (by omega) (by omega) (by omega) (by omega)] at q
    have q : (S s).length = 4 := by omega
    refine snap_shift (d := d) (I0 := I) hs (fun J f a => ?_) 3 1 I rfl (Nat.le_refl _) (fun _ _ _ => rfl) (fun j hj => by omega) (fun j _ _ => ⟨rfl, rfl⟩)
    refine s_M_takeSnap_16 _ _ _ ((brP_t (by decide)).mpr ?_)
    have e3 : J 122 s - 1 = z32 ((3 : Nat) : Int) := by
      rw [f 122 s (by omega), n1, q]
      rfl
    have hb : inB (z32 ((4 * s + 3 : Nat) : Int)) 32 := inB_n (by omega) (by omega)
    rw [ixs, up2_eq, e3, addn]
    refine tsP_i hp (tsP_i hp (tsP_i hp (tsP_i hp (tsP_i hb (tsP_i hp (tsP_i hb (tsP_i hp (tsP_i hp (qV_i ?_)))))))))
    rw [ix_n (by omega), f 120 s (by omega), f 106 22 (by omega), h1, h2, z32_s]
    have hcm : up2 (up2 (up2 (up2 J 122 s (z32 ((3 : Nat) : Int))) 123 (4 * s + 3) (z32 (v : Int))) 124 (4 * s + 3) (z32 (er : Int))) 122 s (z32 ((3 + 1 : Nat) : Int)) = up2 (up2 (up2 J 123 (4 * s + 3) (z32 (v : Int))) 124 (4 * s + 3) (z32 (er : Int))) 122 s (z32 ((3 + 1 : Nat) : Int)) := by
      funext q k
      by_cases c : q = 122 ∧ k = s
      · obtain ⟨rfl, rfl⟩ := c
        rw [up2_eq, up2_eq]
      · rw [up2_if, if_neg c, up2_if, up2_if, up2_if (k := k), if_neg c, up2_if (b := q) (v := z32 ((3 + 1 : Nat) : Int)), if_neg c, up2_if (v := z32 (er : Int)), up2_if (v := z32 (v : Int))]
    rw [hcm]
    refine core J ((S s).drop 1) 3 (by rw [List.length_drop, q]) (by omega) (fun q k c => f q k (by unfold ZS at c; omega)) (fun t ht hne => ⟨f _ _ (by omega), fun j hj => ⟨f _ _ (by omega), f _ _ (by omega)⟩⟩) (fun j x hx => ?_) ?_
    · rw [List.getElem?_drop] at hx
      have hj := (List.getElem?_eq_some_iff.mp hx).1
      obtain ⟨a1, a2⟩ := a j (by omega)
      rw [a1, a2]
      have := n3 (1 + j) x hx
      rw [show 4 * s + (1 + j) = 4 * s + j + 1 by omega] at this
      exact this
    · unfold addS
      rw [if_pos q]
theorem RMS.n {σ : SS} {I2 : IM} {S2 : SN} (h : RMS σ I) (f : ∀ q k, ¬ ZS q → I2 q k = I q k) (hS : SNM I2 S2) : RMS (wN σ S2) I2 := by
  obtain ⟨a, b, c, e, f2, g, y, l, v, u⟩ := h
  exact ⟨a.mv (fun q k z => f q k (by unfold ZE at z; unfold ZS; omega)), b.mv (fun q k z => f q k (by unfold ZC at z; unfold ZS; omega)), hS, fun k hk => (f _ _ (by unfold ZS; omega)).trans (e k hk), f2.mv (fun q k z => f q k (by unfold ZP at z; unfold ZS; omega)), g.mv (fun q k z => f q k (by unfold ZQ at z; unfold ZS; omega)), y.mv (fun q k z => f q k (by unfold ZY at z; unfold ZS; omega)), fun k hk => (f _ _ (by unfold ZS; omega)).trans (l k hk), (f _ _ (by unfold ZS; omega)).trans v, (f _ _ (by unfold ZS; omega)).trans u⟩
theorem q_snap {K : Int32 → IM → Prop} (h : RM τ I) (s : Int32) (k : ∀ I2, FrC I I2 → RM (S_snap τ s).1 I2 → K (S_snap τ s).2 I2) : CI (d + 100) 202 [vR (some 106), vI s] (mm I D) K := by
  have he := eraC_le h.C.2.2.1.1
  unfold S_snap at k
  refine s_M_snap _ ?_
  rw [e_mstream]
  refine br1 (fun hs => ?_) (fun hs => qI_i ?_)
  · rw [if_pos hs] at k
    obtain ⟨n, rfl, hn⟩ := rng (m := 7) (by omega) hs
    rw [aN_z (by omega)] at k
    have hvr := vrS_le (L := zL (tS τ)) (s := n)
    have h240 := h.E.2.1
    refine c_mtake (d := d + 99) h.N (by omega) (h.E.2.2.2 n (by omega)) (by omega) h.C.1 he (fun I2 f hS => tsP_i (inB_n (by omega) (by omega)) (qI_i ?_))
    rw [ix_n (by omega), f 120 n (by unfold ZS; omega), h.E.2.2.2 n (by omega)]
    exact k I2 (fun q k c => f q k (by unfold ZS; omega)) ⟨h.1.fr (f _ _ (by unfold ZS; omega)) (fun k => f _ _ (by unfold ZS; omega)), h.2.1.fr (fun k => f _ _ (by unfold ZS; omega)), h.2.2.1.n f hS, h.2.2.2.mv (f _ _ (by unfold ZS; omega)) (fun k => f _ _ (by unfold ZS; omega)) (fun k hk => f _ _ (by unfold ZS; omega)) (fun k hk => f _ _ (by unfold ZS; omega))⟩
  · rw [if_neg hs] at k
    exact k I FrC.rf h
theorem find_loop {K : Int32 → IM → Prop} {L : List EV} {s : Nat} {v : Int32} (hE : EVM I L) (hs : s < 8) (hes : ∀ e ∈ L, eS e < 8) : ∀ (l : List EV) (i : Nat), L.drop i = l → i ≤ L.length → K (posL s v l (i + 1)) I →
    Wp GG (d + 1) 228 13 [vR (some 106), vI (z32 (s : Int)), vI v, vI (z32 ((i + 1 : Nat) : Int))] [] (mm I D) (qI (mm I D) K) := by
  have h240 := hE.2.1
  intro l
  induction l with
  | nil =>
    intro i hd hi k
    have : L.length ≤ i := List.drop_eq_nil_iff.mp hd
    refine s_M_find_13 _ _ _ ?_
    rw [hE.1]
    exact (brP_t (by rw [z32_lt] <;> omega)).mpr (qI_i k)
  | cons e l ih =>
    intro i hd hi k
    obtain ⟨hj, hx, hd2⟩ := get_drop hd
    have c0 : I 113 (i + 1) = z32 (eS e : Int) := hE.2.2.1 i e hx 0 (by omega)
    have c1 : I 114 (i + 1) = z32 (eV e : Int) := hE.2.2.1 i e hx 1 (by omega)
    have he8 := hes e (List.mem_of_getElem? hx)
    have hp : inB (z32 ((i + 1 : Nat) : Int)) 241 := inB_n (by omega) (by omega)
    have k : K (if eS e = s then (if z32 (eV e : Int) = v then z32 ((i + 1 : Nat) : Int) else posL s v l (i + 1 + 1)) else posL s v l (i + 1 + 1)) I := k
    refine s_M_find_13 _ _ _ ?_
    rw [hE.1]
    refine (brP_f (by rw [z32_lt] <;> omega)).mpr (tsP_i hp ?_)
    rw [ix_n (by omega), c0, c1, z32_s]
    refine brP_i (fun q => ?_) (fun q => tsP_i hp (brP_i (fun q2 => ?_) (fun q2 => qI_i ?_)))
    · rw [if_neg (fun c => q (by rw [c]))] at k
      exact ih (i + 1) hd2 hj k
    · have q := Classical.not_not.mp q
      rw [z32_inj (by omega) (by omega) (by omega) (by omega)] at q
      rw [if_pos (by omega), if_neg q2] at k
      exact ih (i + 1) hd2 hj k
    · have q := Classical.not_not.mp q
      rw [z32_inj (by omega) (by omega) (by omega) (by omega)] at q
      rw [if_pos (by omega), if_pos (Classical.not_not.mp q2)] at k
      exact k
theorem posL_0 {s : Nat} : ∀ (l : List EV) (i : Nat), (∀ e ∈ l, 1 ≤ eV e ∧ eV e ≤ 240) → posL s 0 l i = -1 := by
  intro l
  induction l with
  | nil => intro i _; rfl
  | cons e l ih =>
    intro i h
    have h1 := h e List.mem_cons_self
    have h2 := ih (i + 1) (fun y hy => h y (List.mem_cons_of_mem _ hy))
    show (if eS e = s then (if z32 (eV e : Int) = 0 then z32 (i : Int) else posL s 0 l (i + 1)) else posL s 0 l (i + 1)) = -1
    rw [if_neg (show ¬ z32 (eV e : Int) = 0 by rw [z32_0, z32_inj] <;> omega), h2]
    by_cases c : eS e = s
    · rw [if_pos c]
    · rw [if_neg c]
theorem q_find {K : Int32 → IM → Prop} (h : RM τ I) (wf : WF (tS τ)) (s v : Int32) (k : ∀ I2, FrC I I2 → RM τ I2 → K (S_find τ s v) I2) : CI (d + 100) 228 [vR (some 106), vI s, vI v] (mm I D) K := by
  have h240 := h.E.2.1
  have k := k I FrC.rf h
  unfold S_find at k
  refine s_M_find _ _ ?_
  rw [e_mver h.E]
  refine br1 (fun hs => ?_) (fun hs => qI_i ?_)
  · have es : posL (aN s) v (zL (tS τ)) 1 = if ((0 ≤ s ∧ s ≤ 7) ∧ 0 ≤ v ∧ v ≤ z32 (vrS (zL (tS τ)) (aN s) : Int)) ∧ ¬ v ≤ 0 then posL (aN s) v (zL (tS τ)) 1 else -1 := by
      by_cases c : v ≤ 0
      · rw [if_neg (fun q => q.2 c)]
        have : v = 0 := Int32.le_antisymm c hs.2.1
        rw [this]
        exact posL_0 _ _ (fun e he => ⟨(VOL.le wf.2.1 he).2, VOL.b wf.2.1 h240 e he⟩)
      · rw [if_pos ⟨hs, c⟩]
    rw [← es] at k
    obtain ⟨n, rfl, hn⟩ := rng (m := 7) (by omega) hs.1
    rw [aN_z (by omega)] at k
    exact find_loop (d := d + 99) h.E (by omega) (fun e he => (wf.1 e he).1) (zL (tS τ)) 0 rfl (Nat.zero_le _) k
  · rw [if_neg (fun c => hs c.1)] at k
    exact k
theorem mworth_loop {K : Int64 → IM → Prop} {C : CF} {L : List EV} {p : Nat} {I0 : IM} (hE : EVM I0 L) (hC : CSM I0 C) (ho : ∀ e ∈ L, okEv C e) (hv : VOL L) (hp : p ≤ L.length) : ∀ (g s : Nat) (J : IM) (w : Int64), s + g = 8 → FoF I0 J → (∀ I2, FoF I0 I2 → K (wrV (stF C (L.take p)) (List.range' s g) w) I2) →
    Wp GG (d + 4) 229 21 [vR (some 106), vI (z32 (p : Int)), vL w, vT, vI (z32 (s : Int))] [] (mm J D) (qL (mm I0 D) K) := by
  have h240 := hE.2.1
  intro g
  induction g with
  | zero =>
    intro s J w hs f k
    obtain rfl : s = 8 := by omega
    exact s_M_worth_21 _ _ _ ((brP_t (by decide)).mpr ⟨_, _, rfl, rfl, k J f⟩)
  | succ g ih =>
    intro s J w hs f k
    refine s_M_worth_21 _ _ _ ((brP_f (by show ¬ z32 8 ≤ _; rw [z32_le] <;> omega)).mpr ?_)
    refine c_mfold (d := d) (v := 240) (hE.st f.s.t) (hC.st f.s.t) ho (hv.b h240) (by omega) (Nat.le_refl _) hp (fun I2 f2 x2 => ?_)
    rw [foV_st (fun e he _ => hv.b h240 e (List.mem_of_mem_take he))] at x2
    have x0 : I2 121 0 = (stF C (L.take p) s).1 := x2 0 (by omega)
    have x1 : I2 121 1 = (stF C (L.take p) s).2.1 := x2 1 (by omega)
    have x3 : I2 121 3 = (stF C (L.take p) s).2.2.2 := x2 3 (by omega)
    rw [x0, x1, x3, z32_s]
    have k : ∀ I2, FoF I0 I2 → K (wrV (stF C (L.take p)) (List.range' (s + 1) g) (if (stF C (L.take p) s).1 = 1 then w + (stF C (L.take p) s).2.1.toInt64 * (stF C (L.take p) s).2.2.2.toInt64 else w)) I2 := k
    refine brP_i (fun q => ?_) (fun q => ?_)
    · rw [if_neg q] at k
      exact ih (s + 1) I2 _ (by omega) (f.tr f2) k
    · rw [if_pos (Classical.not_not.mp q)] at k
      exact ih (s + 1) I2 _ (by omega) (f.tr f2) k
theorem q_worth {K : Int64 → IM → Prop} (h : RM τ I) (wf : WF (tS τ)) (p : Int32) (k : ∀ I2, FrC I I2 → RM τ I2 → K (S_worth τ p) I2) : CL (d + 100) 229 [vR (some 106), vI p] (mm I D) K := by
  have h240 := h.E.2.1
  unfold S_worth at k
  refine s_M_worth _ ?_
  rw [h.E.1, e_in]
  refine br1 (fun q => ?_) (fun q => qL_i ?_)
  · have q' : 0 ≤ p ∧ p ≤ z32 ((zL (tS τ)).length : Int) := q
    rw [if_pos q'] at k
    obtain ⟨n, rfl, hn⟩ := rng (by omega) q'
    rw [aN_z (by omega)] at k
    exact mworth_loop (d := d + 96) h.E h.C wf.1 wf.2.1 hn 8 0 I 0 rfl FoF.rf (fun I2 f => k I2 f.s.c (h.sf f.s))
  · have q' : ¬ (0 ≤ p ∧ p ≤ z32 ((zL (tS τ)).length : Int)) := q
    rw [if_neg q'] at k
    exact k I FrC.rf h
theorem q_event {K : Int32 → IM → Prop} (h : RM τ I) (wf : WF (tS τ)) (p w : Int32) (k : ∀ I2, FrC I I2 → RM τ I2 → K (S_event τ p w) I2) : CI (d + 100) 222 [vR (some 106), vI p, vI w] (mm I D) K := by
  have h240 := h.E.2.1
  unfold S_event at k
  refine s_M_event _ _ ?_
  rw [e_mpos h.E]
  refine br1 (fun hp => ?_) (fun hp => qI_i ?_)
  · obtain ⟨n, rfl, hn⟩ := rng1 (by omega) hp
    obtain ⟨e, he⟩ : ∃ e, (zL (tS τ))[n]? = some e := ⟨_, List.getElem?_eq_getElem (by omega)⟩
    have hb : inB (z32 ((n + 1 : Nat) : Int)) 241 := inB_n (by omega) (by omega)
    rw [aN_z (by omega), Nat.add_sub_cancel, he] at k
    have ix : ixN (z32 ((n + 1 : Nat) : Int)) = n + 1 := ix_n (by omega)
    have col := fun c hc => h.E.2.2.1 n e he c hc
    have k0 : ∀ m : Nat, m < 6 → w = z32 (m : Int) → K (I (113 + m) (n + 1)) I := fun m hm hw => by
      subst hw
      rw [if_pos ⟨hp, by rw [z32_0, show (7 : Int32) = z32 7 from rfl, z32_le, z32_le] <;> omega⟩] at k
      have := k I FrC.rf h
      dsimp only at this
      rw [if_neg (by show ¬ z32 6 ≤ _; rw [z32_le] <;> omega), aN_z (by omega), ← col m hm] at this
      exact this
    rw [ix]
    refine brP_i (fun c => tsP_i hb (qI_i (k0 0 (by omega) c))) (fun c0 => brP_i (fun c => tsP_i hb (qI_i (k0 1 (by omega) c))) (fun c1 => brP_i (fun c => tsP_i hb (qI_i (k0 2 (by omega) c))) (fun c2 => brP_i (fun c => tsP_i hb (qI_i (k0 3 (by omega) c))) (fun c3 => brP_i (fun c => tsP_i hb (qI_i (k0 4 (by omega) c))) (fun c4 => brP_i (fun c => tsP_i hb (qI_i (k0 5 (by omega) c))) (fun c5 => brP_i (fun c => ?_) (fun c6 => brP_i (fun c => ?_) (fun c7 => qI_i ?_))))))))
    · have c : w = 6 := c
      subst c
      rw [if_pos ⟨hp, by decide⟩] at k
      refine c_mread (d := d + 97) h.E h.C he (wf.1 e (List.mem_of_getElem? he)) (fun I2 f2 a b => qI_i ?_)
      rw [a]
      exact k I2 f2.s.c (h.sf f2.s)
    · have c : w = 7 := c
      subst c
      rw [if_pos ⟨hp, by decide⟩] at k
      refine c_mread (d := d + 97) h.E h.C he (wf.1 e (List.mem_of_getElem? he)) (fun I2 f2 a b => qI_i ?_)
      rw [b]
      exact k I2 f2.s.c (h.sf f2.s)
    · have : ¬ ((1 ≤ z32 ((n + 1 : Nat) : Int) ∧ z32 ((n + 1 : Nat) : Int) ≤ z32 ((zL (tS τ)).length : Int)) ∧ 0 ≤ w ∧ w ≤ 7) := fun c => by
        obtain ⟨m, hm, hm7⟩ := rng (m := 7) (by omega) c.2
        rcases (by omega : m = 0 ∨ m = 1 ∨ m = 2 ∨ m = 3 ∨ m = 4 ∨ m = 5 ∨ m = 6 ∨ m = 7) with rfl | rfl | rfl | rfl | rfl | rfl | rfl | rfl
        · exact c0 hm
        · exact c1 hm
        · exact c2 hm
        · exact c3 hm
        · exact c4 hm
        · exact c5 hm
        · exact c6 hm
        · exact c7 hm
      rw [if_neg this] at k
      exact k I FrC.rf h
  · rw [if_neg (fun c => hp c.1)] at k
    exact k I FrC.rf h
theorem q_see {K : Int32 → IM → Prop} (h : RM τ I) (c s : Int32) (k : ∀ I2, FrC I I2 → RM (S_see τ c s).1 I2 → K (S_see τ c s).2 I2) : CI (d + 100) 255 [vR (some 106), vI c, vI s] (mm I D) K := by
  have h240 := h.E.2.1
  unfold S_see at k
  refine s_M_see _ _ ?_
  rw [e_mcli]
  refine br0 (fun hc => ?_) (fun hc => qI_i ?_)
  · rw [e_mstream]
    refine br1 (fun hs => ?_) (fun hs => qI_i ?_)
    · rw [if_pos ⟨hc, hs⟩] at k
      obtain ⟨m, rfl, hm⟩ := rng (m := 3) (by omega) hc
      obtain ⟨n, rfl, hn⟩ := rng (m := 7) (by omega) hs
      rw [aN_z (by omega), aN_z (by omega)] at k
      have hvr := vrS_le (L := zL (tS τ)) (s := n)
      have hb : inB (z32 (m : Int)) 4 := inB_n (by omega) (by omega)
      have hb8 : inB (z32 (n : Int)) 8 := inB_n (by omega) (by omega)
      refine tsP_i hb (tsP_i hb (tsP_i hb8 (tsP_i hb (tsP_i hb8 (qI_i ?_)))))
      rw [ix_n (n := n) (by omega), ix_n (n := m) (by omega), h.E.2.2.2 n (by omega)]
      have f : ∀ q k, ¬ ((q = 155 ∨ q = 156 ∨ q = 157) ∧ k = m) → up2 (up2 (up2 I 155 m 1) 156 m (z32 (n : Int))) 157 m (z32 (vrS (zL (tS τ)) n : Int)) q k = I q k := fun q k e => by
        rw [up2_if, if_neg (by omega), up2_if, if_neg (by omega), up2_if, if_neg (by omega)]
      refine k _ (fun q k e => f q k (by omega)) ⟨h.1.fr (f _ _ (by omega)) (fun k => f _ _ (by omega)), h.2.1.fr (fun k => f _ _ (by omega)), ?_, ?_⟩
      · obtain ⟨a, b, c, e, f2, g, y, l, v, u⟩ := h.2.2.1
        refine ⟨a.mv (fun q k z => f q k (by unfold ZE at z; omega)), b.mv (fun q k z => f q k (by unfold ZC at z; omega)), c.mv (fun q k z => f q k (by unfold ZS at z; omega)), fun k hk => (f _ _ (by omega)).trans (e k hk), f2.mv (fun q k z => f q k (by unfold ZP at z; omega)), g.mv (fun q k z => f q k (by unfold ZQ at z; omega)), fun c hc => ?_, fun k hk => (f _ _ (by omega)).trans (l k hk), (f _ _ (by omega)).trans v, (f _ _ (by omega)).trans u⟩
        show SEM _ c (updF (zE (tS τ)) m (some (n, vrS (zL (tS τ)) n)) c)
        by_cases q : c = m
        · subst q
          have e1 : updF (zE (tS τ)) c (some (n, vrS (zL (tS τ)) n)) c = some (n, vrS (zL (tS τ)) n) := if_pos rfl
          rw [e1]
          exact ⟨by rw [up2_ne (by omega), up2_ne (by omega), up2_eq], by rw [up2_ne (by omega), up2_eq], up2_eq, by omega, by omega⟩
        · have e1 : updF (zE (tS τ)) m (some (n, vrS (zL (tS τ)) n)) c = zE (tS τ) c := if_neg q
          rw [e1]
          exact (y c hc).mv (fun q _ _ => f _ _ (by omega))
      · exact h.2.2.2.mv (f _ _ (by omega)) (fun k => f _ _ (by omega)) (fun k hk => f _ _ (by omega)) (fun k hk => f _ _ (by omega))
    · rw [if_neg (fun c => hs c.2)] at k
      exact k I FrC.rf h
  · rw [if_neg (fun c => hc c.1)] at k
    exact k I FrC.rf h
end
