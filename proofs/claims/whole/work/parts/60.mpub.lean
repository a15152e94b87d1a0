/-! The model's calls: feeding, states, snapshots, the log. -/
section
variable {d : Nat} {I : IM} {D : DY} {τ : ST}
theorem RM.E (h : RM τ I) : EVM I (zL (tS τ)) := h.2.2.1.1
theorem RM.C (h : RM τ I) : CSM I (zC (tS τ)) := h.2.2.1.2.1
theorem RM.N (h : RM τ I) : SNM I (zN (tS τ)) := h.2.2.1.2.2.1
theorem RM.A (h : RM τ I) : ∀ k, k < 1000 → I 126 k = zA (tS τ) k := h.2.2.1.2.2.2.1
theorem RM.P (h : RM τ I) : RMP (zP (tS τ)) I := h.2.2.1.2.2.2.2.1
theorem RM.Q (h : RM τ I) : RMQ (zQ (tS τ)) I := h.2.2.1.2.2.2.2.2.1
theorem RM.Y (h : RM τ I) : RMY (zE (tS τ)) I := h.2.2.1.2.2.2.2.2.2.1
theorem RM.G (h : RM τ I) : ∀ k, k < 7 → I 125 k = zD (tS τ) k := h.2.2.1.2.2.2.2.2.2.2.1
theorem RM.V (h : RM τ I) : I 106 23 = z32 (zV (tS τ) : Int) := h.2.2.1.2.2.2.2.2.2.2.2.1
theorem RM.H (h : RM τ I) : I 106 75 = zH (tS τ) := h.2.2.1.2.2.2.2.2.2.2.2.2
theorem e_mstream {K : Int32 → IM → Prop} (s : Int32) : CI (d + 1) 192 [vI s] (mm I D) K ↔ K (b32 (0 ≤ s ∧ s ≤ 7)) I := by
  refine CI_iff (s_M_isStream _ ?_)
  rw [e_in, rtP_iff]
  exact ⟨b32_r, qI_i ⟨rfl, rfl⟩⟩
theorem e_mproj {K : Int32 → IM → Prop} (s : Int32) : CI (d + 1) 233 [vI s] (mm I D) K ↔ K (b32 (0 ≤ s ∧ s ≤ 3)) I := by
  refine CI_iff (s_M_isProjection _ ?_)
  rw [e_in, rtP_iff]
  exact ⟨b32_r, qI_i ⟨rfl, rfl⟩⟩
theorem e_mpol {K : Int32 → IM → Prop} (s : Int32) : CI (d + 1) 250 [vI s] (mm I D) K ↔ K (b32 (0 ≤ s ∧ s ≤ 3)) I := by
  refine CI_iff (s_M_isPolicy _ ?_)
  rw [e_in, rtP_iff]
  exact ⟨b32_r, qI_i ⟨rfl, rfl⟩⟩
theorem e_mcli {K : Int32 → IM → Prop} (s : Int32) : CI (d + 1) 256 [vI s] (mm I D) K ↔ K (b32 (0 ≤ s ∧ s ≤ 3)) I := by
  refine CI_iff (s_M_isClient _ ?_)
  rw [e_in, rtP_iff]
  exact ⟨b32_r, qI_i ⟨rfl, rfl⟩⟩
theorem e_mpos {K : Int32 → IM → Prop} {L : List EV} (h : EVM I L) (p : Int32) : CI (d + 1) 223 [vR (some 106), vI p] (mm I D) K ↔ K (b32 (1 ≤ p ∧ p ≤ z32 (L.length : Int))) I := by
  refine CI_iff (s_M_isPosition _ ?_)
  rw [e_in, rtP_iff, h.1]
  exact ⟨b32_r, qI_i ⟨rfl, rfl⟩⟩
theorem e_mver {K : Int32 → IM → Prop} {L : List EV} (h : EVM I L) (s v : Int32) : CI (d + 2) 200 [vR (some 106), vI s, vI v] (mm I D) K ↔ K (b32 ((0 ≤ s ∧ s ≤ 7) ∧ 0 ≤ v ∧ v ≤ z32 (vrS L (aN s) : Int))) I := by
  refine CI_iff (s_M_isVersion _ _ ?_)
  rw [e_mstream]
  refine br0 (fun hs => ?_) (fun hs => qI_i ⟨(b32_f (fun c => hs c.1)).symm, rfl⟩)
  obtain ⟨n, rfl, hn⟩ := rng (m := 7) (by omega) hs
  rw [aN_z (by omega)]
  refine tsP_i (inB_n (by omega) (by omega)) ?_
  rw [ix_n (by omega), h.2.2.2 n (by omega), e_in]
  exact br0 (fun c => qI_i ⟨(b32_t ⟨hs, c⟩).symm, rfl⟩) (fun c => qI_i ⟨(b32_f (fun q => c q.2)).symm, rfl⟩)
theorem q_feed {K : Int32 → IM → Prop} (h : RM τ I) (c : Int32) (k : ∀ I2, FrC I I2 → RM (S_feed τ c).1 I2 → K (S_feed τ c).2 I2) : CI (d + 100) 168 [vR (some 106), vI c] (mm I D) K := by
  obtain ⟨t1, t2, t3, t4⟩ := h.1
  unfold S_feed at k
  refine s_M_feed _ ?_
  rw [e_in]
  refine br1 (fun q => ?_) (fun q => qI_i ?_)
  · have q' : 1 ≤ c ∧ c ≤ 255 := q
    rw [if_pos q'] at k
    rw [t1]
    refine brP_i (fun n => ?_) (fun n => ?_)
    · have hlt : (tT τ).length < 160 := by
        rcases Nat.lt_or_ge (tT τ).length 160 with c | c
        · exact c
        · exact absurd (by rw [show (tT τ).length = 160 by omega]; rfl) n
      rw [if_pos hlt] at k
      refine tsP_i (inB_n hlt (by omega)) (qI_i ?_)
      rw [ix_n (by omega), z32_s]
      have f : ∀ q k, ¬ (q = 107 ∨ (q = 106 ∧ k = 2)) → up2 (up2 I 107 (tT τ).length c) 106 2 (z32 (((tT τ).length + 1 : Nat) : Int)) q k = I q k := fun q k e => by
        rw [up2_if, if_neg (by omega), up2_if, if_neg (by omega)]
      refine k _ (fun q k e => f q k (by omega)) ⟨?_, h.2.1.fr (fun k => f _ _ (by omega)), ?_, ?_⟩
      · show TPm _ (tT τ ++ [c])
        have hl : (tT τ ++ [c]).length = (tT τ).length + 1 := by rw [List.length_append]; rfl
        refine ⟨by rw [up2_eq, hl], by omega, fun i hi => ?_, fun x hx => ?_, fun s hs => ?_⟩
        · rw [hl] at hi
          rw [up2_ne (by omega)]
          by_cases e : i = (tT τ).length
          · rw [e, up2_eq, List.getD_eq_getElem?_getD, List.getElem?_append_right (Nat.le_refl _), Nat.sub_self]
            rfl
          · rw [up2_nj e, t3 i (by omega), List.getD_eq_getElem?_getD, List.getD_eq_getElem?_getD, List.getElem?_append_left (by omega)]
        · rcases List.mem_append.mp hx with e | e
          · exact t4.1 x e
          · rw [List.mem_singleton.mp e]
            obtain ⟨c1, c2⟩ := q'
            rw [show (1 : Int32) = z32 1 from rfl, lit_le (by omega) (by omega)] at c1
            rw [show (255 : Int32) = z32 255 from rfl, le_lit (by omega) (by omega)] at c2
            exact ⟨c1, c2⟩
        · obtain ⟨n, b1, b2⟩ := t4.2 s hs
          exact ⟨n, b1, (f _ _ (by omega)).trans b2⟩
      · obtain ⟨a, b, c, e, f2, g, y, l, v, u⟩ := h.2.2.1
        exact ⟨a.mv (fun q k z => f q k (by unfold ZE at z; omega)), b.mv (fun q k z => f q k (by unfold ZC at z; omega)), c.mv (fun q k z => f q k (by unfold ZS at z; omega)), fun k hk => (f _ _ (by omega)).trans (e k hk), f2.mv (fun q k z => f q k (by unfold ZP at z; omega)), g.mv (fun q k z => f q k (by unfold ZQ at z; omega)), y.mv (fun q k z => f q k (by unfold ZY at z; omega)), fun k hk => (f _ _ (by omega)).trans (l k hk), (f _ _ (by omega)).trans v, (f _ _ (by omega)).trans u⟩
      · exact h.2.2.2.mv (f _ _ (by omega)) (fun k => f _ _ (by omega)) (fun k hk => f _ _ (by omega)) (fun k hk => f _ _ (by omega))
    · have n : z32 ((tT τ).length : Int) = z32 160 := Classical.not_not.mp n
      rw [z32_inj (by omega) (by omega) (by omega) (by omega)] at n
      rw [if_neg (by omega)] at k
      exact qI_i (k I FrC.rf h)
  · have q' : ¬ (1 ≤ c ∧ c ≤ 255) := q
    rw [if_neg q'] at k
    exact k I FrC.rf h
theorem q_state {K : Int32 → IM → Prop} (h : RM τ I) (wf : WF (tS τ)) (s w : Int32) (k : ∀ I2, FrC I I2 → RM τ I2 → K (S_state τ s w) I2) : CI (d + 100) 191 [vR (some 106), vI s, vI w] (mm I D) K := by
  unfold S_state at k
  refine s_M_state _ _ ?_
  rw [e_mstream]
  refine br0 (fun hs => ?_) (fun hs => qI_i ?_)
  · rw [e_in]
    refine br1 (fun hw => ?_) (fun hw => qI_i ?_)
    · rw [if_pos ⟨hs, hw⟩] at k
      obtain ⟨n, rfl, hn⟩ := rng (m := 7) (by omega) hs
      obtain ⟨m, rfl, hm⟩ := rng (m := 4) (by omega) hw
      rw [aN_z (by omega), aN_z (by omega)] at k
      refine brP_i (fun q => ?_) (fun q => ?_)
      · rw [if_neg q] at k
        have hm4 : m ≠ 4 := fun e => q (by rw [e]; rfl)
        refine c_mfoldNow (d := d + 95) h.E h.C wf.1 wf.2.1 (by omega) (fun I2 f2 x2 => tsP_i (inB_n (by omega) (by omega)) (qI_i ?_))
        rw [ix_n (by omega), x2 m (by omega)]
        exact k I2 f2.s.c (h.sf f2.s)
      · rw [if_pos (Classical.not_not.mp q)] at k
        refine tsP_i (inB_n (by omega) (by omega)) (qI_i ?_)
        rw [ix_n (by omega), h.E.2.2.2 n (by omega)]
        exact k I FrC.rf h
    · rw [if_neg (fun c => hw c.2)] at k
      exact k I FrC.rf h
  · rw [if_neg (fun c => hs c.1)] at k
    exact k I FrC.rf h
theorem vrS_mono {L : List EV} {i j : Nat} (s : Nat) (h : i ≤ j) : vrS (L.take i) s ≤ vrS (L.take j) s := by
  have := vrS_tk (L.take j) i s
  rw [List.take_take, Nat.min_eq_left h] at this
  exact this
/-- the fold up to a version is the fold of what stands before the next -/
theorem foV_cut {C : CF} {L : List EV} {s n : Nat} (hv : VOL L) (hn : n ≤ L.length) : foV C s (vrS (L.take n) s) L = stF C (L.take n) s := by
  have e1 : foV C s (vrS (L.take n) s) (L.take n) = stF C (L.take n) s := foV_st (fun e he q => by
    obtain ⟨i, hi⟩ := List.getElem?_of_mem he
    have hin : i < n := by
      have := (List.getElem?_eq_some_iff.mp hi).1
      rw [List.length_take] at this
      omega
    rw [List.getElem?_take_of_lt hin] at hi
    rw [hv i e hi, q]
    exact vrS_mono s (by omega))
  have e2 : ∀ (j : Nat), n + j ≤ L.length → foV C s (vrS (L.take n) s) (L.take (n + j)) = foV C s (vrS (L.take n) s) (L.take n) := by
    intro j
    induction j with
    | zero => intro _; rfl
    | succ j ih =>
      intro hj
      obtain ⟨e, he⟩ : ∃ e, L[n + j]? = some e := ⟨_, List.getElem?_eq_getElem (by omega)⟩
      rw [← Nat.add_assoc, take_s he, foV_snoc, ih (by omega)]
      unfold foE
      rw [if_neg (fun c => ?_)]
      have h1 := hv _ e he
      rw [take_s he, c.1] at h1
      have h2 : vrS (L.take (n + j) ++ [e]) s = vrS (L.take (n + j)) s + 1 := by
        unfold vrS
        rw [List.filter_append, List.length_append, List.filter_cons, if_pos (by rw [c.1]; simp)]
        rfl
      have h3 := vrS_mono (L := L) s (show n ≤ n + j by omega)
      omega
  have := e2 (L.length - n) (by omega)
  rw [show n + (L.length - n) = L.length by omega, List.take_length] at this
  rw [this, e1]
theorem q_at {K : Int32 → IM → Prop} (h : RM τ I) (wf : WF (tS τ)) (s v w : Int32) (k : ∀ I2, FrC I I2 → RM τ I2 → K (S_at τ s v w) I2) : CI (d + 100) 199 [vR (some 106), vI s, vI v, vI w] (mm I D) K := by
  have h240 := h.E.2.1
  unfold S_at at k
  refine s_M_at _ _ _ ?_
  rw [e_mver h.E]
  refine br0 (fun hs => ?_) (fun hs => qI_i ?_)
  · rw [e_in]
    refine br1 (fun hw => ?_) (fun hw => qI_i ?_)
    · rw [if_pos ⟨hs, hw⟩] at k
      obtain ⟨n, rfl, hn⟩ := rng (m := 7) (by omega) hs.1
      rw [aN_z (by omega)] at hs
      have hvr := vrS_le (L := zL (tS τ)) (s := n)
      obtain ⟨u, rfl, hu⟩ := rng (by omega) hs.2
      obtain ⟨m, rfl, hm⟩ := rng (m := 3) (by omega) hw
      rw [aN_z (by omega), aN_z (by omega)] at k
      have hcut : ∃ p, posN τ (z32 (n : Int)) (z32 (u : Int)) = p ∧ p ≤ (zL (tS τ)).length ∧ vrS ((zL (tS τ)).take p) n = u := by
        rcases Nat.eq_zero_or_pos u with e | hu0
        · refine ⟨0, if_pos (by rw [e]; rfl), Nat.zero_le _, ?_⟩
          rw [e]
          rfl
        · obtain ⟨i, e, i1, i2, i3, i4⟩ := posL_v wf.2.1 h240 hu0 hu
          have hi := lt_of_get i1
          refine ⟨i + 1, ?_, by omega, ?_⟩
          · unfold posN
            rw [if_neg (by rw [z32_0, z32_inj] <;> omega), aN_z (by omega), i4, aN_z (by omega)]
          · have := wf.2.1 i e i1
            rw [i2, i3] at this
            exact this.symm
      obtain ⟨p, hp, hpl, hpv⟩ := hcut
      rw [hp] at k
      rw [h.E.1]
      refine c_mfold (d := d + 96) h.E h.C wf.1 (VOL.b wf.2.1 h240) (s := n) (v := u) (by omega) (by omega) (Nat.le_refl _) (fun I2 f2 x2 => tsP_i (inB_n (by omega) (by omega)) (qI_i ?_))
      rw [List.take_length, ← hpv, foV_cut wf.2.1 hpl] at x2
      rw [ix_n (by omega), x2 m (by omega)]
      exact k I2 f2.s.c (h.sf f2.s)
    · rw [if_neg (fun c => hw c.2)] at k
      exact k I FrC.rf h
  · rw [if_neg (fun c => hs c.1)] at k
    exact k I FrC.rf h
theorem mul4 (n : Nat) : 4 * z32 (n : Int) = z32 ((4 * n : Nat) : Int) := by
  show z32 4 * _ = _
  rw [z32_mul]
  congr 1
theorem mul2 (n : Nat) : 2 * z32 (n : Int) = z32 ((2 * n : Nat) : Int) := by
  show z32 2 * _ = _
  rw [z32_mul]
  congr 1
theorem mul9 (n : Nat) : 9 * z32 (n : Int) = z32 ((9 * n : Nat) : Int) := by
  show z32 9 * _ = _
  rw [z32_mul]
  congr 1
theorem addn (a b : Nat) : z32 (a : Int) + z32 (b : Int) = z32 ((a + b : Nat) : Int) := by
  rw [z32_add]
  congr 1
theorem steps_loop {K : Int32 → IM → Prop} {S : SN} {er s u : Nat} (hN : SNM I S) (he : I 106 22 = z32 (er : Int)) (her : er ≤ 27) (hs : s < 8) (hu : u ≤ 240) :
    ∀ (l : List (Nat × Nat)) (j m : Nat) (w : PV), (S s).drop j = l → j ≤ (S s).length → m ≤ 240 → K (z32 (u : Int) - z32 (ltV er u l m : Int)) I →
    Wp GG (d + 1) 201 16 [vR (some 106), vI (z32 (s : Int)), vI (z32 (u : Int)), vI (z32 (m : Int)), vI (z32 (j : Int)), w] [] (mm I D) (qI (mm I D) K) := by
  obtain ⟨n1, n2, n3⟩ := hN s hs
  intro l
  induction l with
  | nil =>
    intro j m w hd hj hm k
    have : (S s).length ≤ j := List.drop_eq_nil_iff.mp hd
    refine s_M_steps_16 _ _ _ _ _ (tsP_i (inB_n hs (by omega)) ?_)
    rw [ix_n (by omega), n1]
    exact (brP_t (by rw [z32_le] <;> omega)).mpr (qI_i k)
  | cons x l ih =>
    intro j m w hd hj hm k
    have hjl : j < (S s).length := by
      rcases Nat.lt_or_ge j (S s).length with q | q
      · exact q
      · rw [List.drop_eq_nil_of_le q] at hd
        cases hd
    have hd2 : (S s).drop (j + 1) = l := by rw [← List.drop_drop, hd]; rfl
    have hx : (S s)[j]? = some x := by
      rw [List.drop_eq_getElem_cons hjl] at hd
      injection hd with h1 h2
      rw [List.getElem?_eq_getElem hjl, h1]
    obtain ⟨x1, x2, x3, x4⟩ := n3 j x hx
    have e4 : 4 * z32 (s : Int) + z32 (j : Int) = z32 ((4 * s + j : Nat) : Int) := by rw [mul4, addn]
    have k : K (z32 (u : Int) - z32 (ltV er u l (if x.2 = er ∧ x.1 ≤ u then (if m < x.1 then x.1 else m) else m) : Int)) I := k
    refine s_M_steps_16 _ _ _ _ _ (tsP_i (inB_n hs (by omega)) ?_)
    rw [ix_n (n := s) (by omega), n1]
    refine (brP_f (by rw [z32_le] <;> omega)).mpr ?_
    rw [e4]
    have hb : inB (z32 ((4 * s + j : Nat) : Int)) 32 := inB_n (by omega) (by omega)
    refine tsP_i hb (tsP_i hb ?_)
    rw [ix_n (by omega), x1, x2, he, z32_s]
    refine brP_i (fun q => ?_) (fun q => brP_i (fun q2 => ?_) (fun q2 => ?_))
    · rw [if_neg (fun c => q (by rw [c.1]))] at k
      exact ih (j + 1) m _ hd2 hjl hm k
    · rw [z32_lt (by omega) (by omega) (by omega) (by omega)] at q2
      rw [if_neg (fun c => by omega)] at k
      exact ih (j + 1) m _ hd2 hjl hm k
    · have q := Classical.not_not.mp q
      rw [z32_inj (by omega) (by omega) (by omega) (by omega)] at q
      rw [z32_lt (by omega) (by omega) (by omega) (by omega)] at q2
      rw [if_pos ⟨by omega, by omega⟩] at k
      rw [e_max]
      have em : (if z32 (m : Int) < z32 (x.1 : Int) then z32 (x.1 : Int) else z32 (m : Int)) = z32 ((if m < x.1 then x.1 else m : Nat) : Int) := by
        by_cases c : m < x.1
        · rw [if_pos c, if_pos (by rw [z32_lt] <;> omega)]
        · rw [if_neg c, if_neg (by rw [z32_lt] <;> omega)]
      rw [em]
      refine ih (j + 1) _ _ hd2 hjl ?_ k
      by_cases c : m < x.1
      · rw [if_pos c]
        exact x3
      · rw [if_neg c]
        exact hm
theorem q_steps {K : Int32 → IM → Prop} (h : RM τ I) (s v : Int32) (k : ∀ I2, FrC I I2 → RM τ I2 → K (S_steps τ s v) I2) : CI (d + 100) 201 [vR (some 106), vI s, vI v] (mm I D) K := by
  have h240 := h.E.2.1
  have he := eraC_le h.C.2.2.1.1
  unfold S_steps at k
  refine s_M_steps _ _ ?_
  rw [e_mver h.E]
  refine br1 (fun hs => ?_) (fun hs => qI_i ?_)
  · rw [if_pos hs] at k
    obtain ⟨n, rfl, hn⟩ := rng (m := 7) (by omega) hs.1
    rw [aN_z (by omega)] at hs
    have hvr := vrS_le (L := zL (tS τ)) (s := n)
    obtain ⟨u, rfl, hu⟩ := rng (by omega) hs.2
    rw [aN_z (by omega), aN_z (by omega)] at k
    exact steps_loop (d := d + 99) h.N h.C.1 he (by omega) (by omega) (zN (tS τ) n) 0 0 vT rfl (Nat.zero_le _) (by omega) (k I FrC.rf h)
  · rw [if_neg hs] at k
    exact k I FrC.rf h
theorem snaps_loop0 {K : Int32 → IM → Prop} {S : SN} {s : Nat} (hN : SNM I S) (hs : s < 8) (k : K (z32 ((S s).length : Int)) I) :
    ∀ (g j : Nat), j + g = (S s).length → Wp GG (d + 1) 204 23 [vR (some 106), vI (z32 (s : Int)), vI 0, vI (z32 (j : Int)), vI (z32 (j : Int))] [] (mm I D) (qI (mm I D) K) := by
  obtain ⟨n1, n2, n3⟩ := hN s hs
  intro g
  induction g with
  | zero =>
    intro j hj
    refine s_M_snaps_23 _ _ _ _ (tsP_i (inB_n hs (by omega)) ?_)
    rw [ix_n (by omega), n1]
    refine (brP_t (by rw [z32_le] <;> omega)).mpr (qI_i ?_)
    rw [show j = (S s).length by omega]
    exact k
  | succ g ih =>
    intro j hj
    refine s_M_snaps_23 _ _ _ _ (tsP_i (inB_n hs (by omega)) ?_)
    rw [ix_n (by omega), n1]
    refine (brP_f (by rw [z32_le] <;> omega)).mpr ((brP_t rfl).mpr ?_)
    rw [z32_s]
    exact ih (j + 1) (by omega)
theorem snaps_loop1 {K : Int32 → IM → Prop} {S : SN} {er s : Nat} (hN : SNM I S) (he : I 106 22 = z32 (er : Int)) (her : er ≤ 27) (hs : s < 8) :
    ∀ (l : List (Nat × Nat)) (j m : Nat), (S s).drop j = l → j ≤ (S s).length → K (z32 ((m + gdV er l : Nat) : Int)) I →
    Wp GG (d + 1) 204 23 [vR (some 106), vI (z32 (s : Int)), vI 1, vI (z32 (m : Int)), vI (z32 (j : Int))] [] (mm I D) (qI (mm I D) K) := by
  obtain ⟨n1, n2, n3⟩ := hN s hs
  intro l
  induction l with
  | nil =>
    intro j m hd hj k
    have : (S s).length ≤ j := List.drop_eq_nil_iff.mp hd
    refine s_M_snaps_23 _ _ _ _ (tsP_i (inB_n hs (by omega)) ?_)
    rw [ix_n (by omega), n1]
    exact (brP_t (by rw [z32_le] <;> omega)).mpr (qI_i k)
  | cons x l ih =>
    intro j m hd hj k
    have hjl : j < (S s).length := by
      rcases Nat.lt_or_ge j (S s).length with q | q
      · exact q
      · rw [List.drop_eq_nil_of_le q] at hd
        cases hd
    have hd2 : (S s).drop (j + 1) = l := by rw [← List.drop_drop, hd]; rfl
    have hx : (S s)[j]? = some x := by
      rw [List.drop_eq_getElem_cons hjl] at hd
      injection hd with h1 h2
      rw [List.getElem?_eq_getElem hjl, h1]
    obtain ⟨x1, x2, x3, x4⟩ := n3 j x hx
    have e4 : 4 * z32 (s : Int) + z32 (j : Int) = z32 ((4 * s + j : Nat) : Int) := by rw [mul4, addn]
    have k : K (z32 ((m + ((if x.2 = er then 1 else 0) + gdV er l) : Nat) : Int)) I := k
    refine s_M_snaps_23 _ _ _ _ (tsP_i (inB_n hs (by omega)) ?_)
    rw [ix_n (n := s) (by omega), n1]
    refine (brP_f (by rw [z32_le] <;> omega)).mpr ((brP_f (by decide)).mpr ?_)
    rw [e4]
    refine tsP_i (inB_n (by omega) (by omega)) ?_
    rw [ix_n (by omega), x2, he, z32_s, z32_s]
    refine brP_i (fun q => ?_) (fun q => ?_)
    · rw [if_neg (fun c => q (by rw [c])), Nat.zero_add] at k
      exact ih (j + 1) m hd2 hjl k
    · have q := Classical.not_not.mp q
      rw [z32_inj (by omega) (by omega) (by omega) (by omega)] at q
      rw [if_pos (by omega), ← Nat.add_assoc] at k
      exact ih (j + 1) (m + 1) hd2 hjl k
theorem q_snaps {K : Int32 → IM → Prop} (h : RM τ I) (s w : Int32) (k : ∀ I2, FrC I I2 → RM τ I2 → K (S_snaps τ s w) I2) : CI (d + 100) 204 [vR (some 106), vI s, vI w] (mm I D) K := by
  have he := eraC_le h.C.2.2.1.1
  unfold S_snaps at k
  refine s_M_snaps _ _ ?_
  rw [e_mstream]
  refine br0 (fun hs => ?_) (fun hs => qI_i ?_)
  · rw [e_in]
    refine br1 (fun hw => ?_) (fun hw => qI_i ?_)
    · rw [if_pos ⟨hs, hw⟩] at k
      obtain ⟨n, rfl, hn⟩ := rng (m := 7) (by omega) hs
      obtain ⟨m, rfl, hm⟩ := rng (m := 1) (by omega) hw
      rw [aN_z (by omega)] at k
      rcases (by omega : m = 0 ∨ m = 1) with rfl | rfl
      · rw [if_pos (by decide)] at k
        exact snaps_loop0 (d := d + 99) h.N (by omega) (k I FrC.rf h) _ 0 (Nat.zero_add _)
      · rw [if_neg (by decide)] at k
        refine snaps_loop1 (d := d + 99) (er := eraC (zC (tS τ))) h.N h.C.1 he (by omega) (zN (tS τ) n) 0 0 rfl (Nat.zero_le _) ?_
        rw [Nat.zero_add]
        exact k I FrC.rf h
    · rw [if_neg (fun c => hw c.2)] at k
      exact k I FrC.rf h
  · rw [if_neg (fun c => hs c.1)] at k
    exact k I FrC.rf h
theorem q_every {K : Int32 → IM → Prop} (h : RM τ I) (n : Int32) (k : ∀ I2, FrC I I2 → RM (S_every τ n).1 I2 → K (S_every τ n).2 I2) : CI (d + 100) 205 [vR (some 106), vI n] (mm I D) K := by
  unfold S_every at k
  refine s_M_every _ ?_
  rw [e_in]
  refine br1 (fun q => qI_i ?_) (fun q => qI_i ?_)
  · have q' : 0 ≤ n ∧ n ≤ 20 := q
    rw [if_pos q'] at k
    obtain ⟨m, rfl, hm⟩ := rng (m := 20) (by omega) q'
    rw [h.V]
    have f : ∀ q k, ¬ (q = 106 ∧ k = 23) → up2 I 106 23 (z32 (m : Int)) q k = I q k := fun q k e => by rw [up2_if, if_neg (by omega)]
    refine k _ (fun q k e => f q k (by omega)) ⟨h.1.fr (f _ _ (by omega)) (fun k => f _ _ (by omega)), h.2.1.fr (fun k => f _ _ (by omega)), ?_, ?_⟩
    · obtain ⟨a, b, c, e, f2, g, y, l, v, u⟩ := h.2.2.1
      exact ⟨a.mv (fun q k z => f q k (by unfold ZE at z; omega)), b.mv (fun q k z => f q k (by unfold ZC at z; omega)), c.mv (fun q k z => f q k (by unfold ZS at z; omega)), fun k hk => (f _ _ (by omega)).trans (e k hk), f2.mv (fun q k z => f q k (by unfold ZP at z; omega)), g.mv (fun q k z => f q k (by unfold ZQ at z; omega)), y.mv (fun q k z => f q k (by unfold ZY at z; omega)), fun k hk => (f _ _ (by omega)).trans (l k hk), by rw [up2_eq]; show _ = z32 ((aN (z32 (m : Int)) : Nat) : Int); rw [aN_z (by omega)], (f _ _ (by omega)).trans u⟩
    · exact h.2.2.2.mv (f _ _ (by omega)) (fun k => f _ _ (by omega)) (fun k hk => f _ _ (by omega)) (fun k hk => f _ _ (by omega))
  · have q' : ¬ (0 ≤ n ∧ n ≤ 20) := q
    rw [if_neg q'] at k
    exact k I FrC.rf h
theorem q_led {K : Int32 → IM → Prop} (h : RM τ I) (w : Int32) (k : ∀ I2, FrC I I2 → RM τ I2 → K (S_led τ w) I2) : CI (d + 100) 266 [vR (some 106), vI w] (mm I D) K := by
  unfold S_led at k
  refine s_M_led _ ?_
  rw [e_in]
  refine br0 (fun q => ?_) (fun q => qI_i ?_)
  · have q' : 0 ≤ w ∧ w ≤ 6 := q
    rw [if_pos q'] at k
    obtain ⟨m, rfl, hm⟩ := rng (m := 6) (by omega) q'
    rw [aN_z (by omega)] at k
    refine tsP_i (inB_n (by omega) (by omega)) (qI_i ?_)
    rw [ix_n (by omega), h.G m (by omega)]
    exact k I FrC.rf h
  · have q' : ¬ (0 ≤ w ∧ w ≤ 6) := q
    rw [if_neg q'] at k
    exact k I FrC.rf h
end
