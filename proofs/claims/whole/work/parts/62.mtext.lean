/-! The model writes events. -/
theorem z64_div {a b : Nat} (ha : a ≤ 100000000000) (hb : 0 < b) (hb2 : b ≤ 100000000000) : z64 (a : Int) / z64 (b : Int) = z64 ((a / b : Nat) : Int) := by
  apply Int64.toInt_inj.mp
  have hq0 : a / b ≤ a := Nat.div_le_self _ _
  obtain ⟨q, hq⟩ : ∃ q, q = a / b := ⟨_, rfl⟩
  rw [← hq] at hq0 ⊢
  rw [Int64.toInt_div, z64_toInt (by omega) (by omega), z64_toInt (by omega) (by omega), z64_toInt (by omega) (by omega), Int.tdiv_eq_ediv_of_nonneg (by omega), ← Int.natCast_ediv, ← hq]
  exact Int.bmod_eq_of_le (by omega) (by omega)
theorem z64_i32 {a : Nat} (ha : a ≤ 1000000) : (z64 (a : Int)).toInt32 = z32 (a : Int) := by
  unfold z64 z32
  rw [Int64.toInt32_ofInt]
theorem lcmp_gt {a b : Int} (h1 : -9223372036854775808 ≤ a) (h2 : a ≤ 9223372036854775807) (h3 : -9223372036854775808 ≤ b) (h4 : b ≤ 9223372036854775807) : 0 < lcmpV (z64 a) (z64 b) ↔ b < a := by
  have e2 := z64_lt h3 h4 h1 h2
  unfold lcmpV
  by_cases q : z64 b < z64 a
  · rw [if_pos q]
    exact ⟨fun _ => e2.mp q, fun _ => by decide⟩
  · rw [if_neg q]
    have q' : ¬ b < a := fun c => q (e2.mpr c)
    refine ⟨fun h => ?_, fun h => absurd h q'⟩
    by_cases q2 : z64 a = z64 b
    · rw [if_pos q2] at h
      exact absurd h (by decide)
    · rw [if_neg q2] at h
      exact absurd h (by decide)
def WLm (I : IM) (t : Tx) : Prop := I 106 47 = z32 (t.length : Int) ∧ t.length ≤ 80 ∧ ∀ j, j < t.length → I 134 j = t.getD j 0
def WRm (I I2 : IM) : Prop := ∀ q j, ¬ ((q = 106 ∧ j = 47) ∨ q = 134) → I2 q j = I q j
theorem WRm.rf {I : IM} : WRm I I := fun _ _ _ => rfl
theorem WRm.tr {I I2 I3 : IM} (h : WRm I I2) (h2 : WRm I2 I3) : WRm I I3 := fun q k e => (h2 q k e).trans (h q k e)
theorem WRm.s {I I2 : IM} (h : WRm I I2) : SFr I I2 := fun q k e => h q k (fun c => e (by unfold Sc; omega))
theorem c_mwsign {d : Nat} {I : IM} {D : DY} {K : IM → Prop} {t : Tx} {c : Int32} (h : WLm I t) (hl : t.length < 80) (k : ∀ I2, WRm I I2 → WLm I2 (t ++ [c]) → K I2) : CV d 227 [vR (some 106), vI c] (mm I D) K := by
  refine s_M_write _ (tsP_i (h.1 ▸ inB_n hl (by omega)) (qV_i ?_))
  rw [h.1, ix_n (by omega), z32_s]
  refine k _ (fun q j e => by rw [up2_if, if_neg (by omega), up2_if, if_neg (by omega)]) ⟨by rw [up2_eq, List.length_append]; rfl, by rw [List.length_append, List.length_singleton]; omega, fun j hj => ?_⟩
  rw [List.length_append, List.length_singleton] at hj
  rw [up2_ne (by omega), getD_snoc]
  by_cases e : j = t.length
  · rw [e, up2_eq, if_pos rfl]
  · rw [up2_nj e, if_neg e]
    exact h.2.2 j (by omega)
theorem dgN_t (n i : Nat) : dgN (i + 1) true (n % 10 ^ (i + 1)) = z32 (48 + ((n / 10 ^ i % 10 : Nat) : Int)) :: dgN i true (n % 10 ^ i) := by
  have hu : 0 < 10 ^ i := Nat.pow_pos (by omega)
  have h1 : n % 10 ^ (i + 1) = n % 10 ^ i + 10 ^ i * (n / 10 ^ i % 10) := Nat.mod_pow_succ
  have h2 : n % 10 ^ i < 10 ^ i := Nat.mod_lt _ hu
  have e1 : (n % 10 ^ (i + 1)) / 10 ^ i = n / 10 ^ i % 10 := by
    rw [h1, Nat.add_mul_div_left _ _ hu, Nat.div_eq_of_lt h2, Nat.zero_add]
  have e2 : (n % 10 ^ (i + 1)) % 10 ^ i = n % 10 ^ i := by
    rw [h1, Nat.add_mul_mod_self_left, Nat.mod_mod]
  conv => lhs; unfold dgN
  rw [if_pos (Or.inl rfl), e1, e2]
theorem dgN_lead {n j : Nat} (h1 : n < 10 ^ (j + 1)) (h2 : 10 ^ j ≤ n ∨ j = 0) : ∀ k, j < k → dgN k false n = dgN (j + 1) true n := by
  intro k
  induction k with
  | zero => intro h; omega
  | succ k ih =>
    intro hk
    by_cases q : j = k
    · subst q
      have hu : 0 < 10 ^ j := Nat.pow_pos (by omega)
      have c : 0 < n / 10 ^ j ∨ j = 0 := h2.imp (fun h => Nat.div_pos h hu) id
      unfold dgN
      rw [if_pos (Or.inr c), if_pos (Or.inl rfl)]
    · have hlt : n < 10 ^ k := Nat.lt_of_lt_of_le h1 (Nat.pow_le_pow_right (by omega) (by omega))
      conv => lhs; unfold dgN
      rw [if_neg (fun c => ?_), Nat.mod_eq_of_lt hlt]
      · exact ih (by omega)
      · rw [Nat.div_eq_of_lt hlt] at c
        rcases c with c | c | c
        · cases c
        · omega
        · omega
theorem mnum_out {d : Nat} {D : DY} {Q : Option PV → PM → Prop} {p1 : Int32} {n : Nat} (hn : n ≤ 2147483648) : ∀ (k : Nat), k ≤ 10 → ∀ (I : IM) (t : Tx) (l4 : Int64), WLm I t → t.length + k ≤ 80 → (k = 0 → l4 = 0) → (∀ j, k = j + 1 → l4 = z64 ((10 ^ j : Nat) : Int)) →
    (∀ I2, WRm I I2 → WLm I2 (t ++ dgN k true (n % 10 ^ k)) → Q none (mm I2 D)) → Wp GG (d + 1) 226 43 [vR (some 106), vI p1, vL (z64 (n : Int)), vT, vL l4, vT] [] (mm I D) Q := by
  intro k
  induction k with
  | zero =>
    intro _ I t l4 h hl h0 _ kk
    rw [h0 rfl]
    refine s_M_writeNumber_43 _ _ _ ((brP_t (by decide)).mpr (kk I WRm.rf ?_))
    show WLm I (t ++ [])
    rw [List.append_nil]
    exact h
  | succ i ih =>
    intro hi I t l4 h hl _ h1 kk
    have hp := pow_le9 (k := i) (by omega)
    rw [h1 i rfl]
    have hq : n / 10 ^ i ≤ n := Nat.div_le_self _ _
    have hm : n / 10 ^ i % 10 < 10 := Nat.mod_lt _ (by omega)
    have e1 : z64 (n : Int) / z64 ((10 ^ i : Nat) : Int) = z64 ((n / 10 ^ i : Nat) : Int) := z64_div (by omega) (by omega) (by omega)
    have e2 : z64 ((n / 10 ^ i : Nat) : Int) / 10 = z64 ((n / 10 ^ i / 10 : Nat) : Int) := z64_div (b := 10) (by omega) (by omega) (by omega)
    have e3 : z64 ((n / 10 ^ i : Nat) : Int) - z64 ((n / 10 ^ i / 10 : Nat) : Int) * 10 = z64 ((n / 10 ^ i % 10 : Nat) : Int) := by
      show _ - _ * z64 10 = _
      rw [z64_mul, z64_sub]
      congr 1
      omega
    have e4 : (48 : Int32) + z32 ((n / 10 ^ i % 10 : Nat) : Int) = z32 (48 + ((n / 10 ^ i % 10 : Nat) : Int)) := by
      show z32 48 + _ = _
      rw [z32_add]
    refine s_M_writeNumber_43 _ _ _ ((brP_f ?_).mpr (tsP_i ?_ ?_))
    · exact Int32.not_le.mpr ((lcmp_gt (b := 0) (by omega) (by omega) (by omega) (by omega)).mpr (by omega))
    · intro c
      have c : z64 ((10 ^ i : Nat) : Int) = z64 0 := c
      rw [z64_inj (by omega) (by omega) (by omega) (by omega)] at c
      omega
    · rw [e1, e2, e3, z64_i32 (by omega), e4]
      refine c_mwsign h (by omega) (fun I2 f2 w2 => ih (by omega) I2 _ _ w2 (by rw [List.length_append, List.length_singleton]; omega) (fun h0 => ?_) (fun j hj => ?_) (fun I3 f3 w3 => kk I3 (f2.tr f3) ?_))
      · subst h0
        decide
      · subst hj
        exact unit10 j (by omega)
      · rw [dgN_t]
        rw [List.append_assoc] at w3
        exact w3
theorem mnum_find {d : Nat} {I : IM} {D : DY} {Q : Option PV → PM → Prop} {p1 : Int32} {n : Nat} (hn : n ≤ 2147483648) (k : ∀ j, j < 10 → n < 10 ^ (j + 1) → (10 ^ j ≤ n ∨ j = 0) → Wp GG (d + 1) 226 43 [vR (some 106), vI p1, vL (z64 (n : Int)), vT, vL (z64 ((10 ^ j : Nat) : Int)), vT] [] (mm I D) Q) :
    ∀ (g j : Nat), j + g = 9 → (10 ^ j ≤ n ∨ j = 0) → Wp GG (d + 1) 226 21 [vR (some 106), vI p1, vL (z64 (n : Int)), vT, vL (z64 ((10 ^ j : Nat) : Int)), vT] [] (mm I D) Q := by
  have step : ∀ j : Nat, j ≤ 9 → z64 ((10 ^ j : Nat) : Int) * 10 = z64 ((10 ^ (j + 1) : Nat) : Int) := fun j _ => by
    show _ * z64 10 = _
    rw [z64_mul]
    congr 1
  have b10 : ∀ j : Nat, j ≤ 9 → 10 ^ (j + 1) ≤ 10000000000 := fun j hj => by
    have := (pow_le9 (k := j) hj).2
    rw [Nat.pow_succ]
    omega
  intro g
  induction g with
  | zero =>
    intro j hj h
    obtain rfl : j = 9 := by omega
    have hlt : n < 10 ^ (9 + 1) := Nat.lt_of_le_of_lt hn (by decide)
    refine s_M_writeNumber_21 _ _ _ ((brP_t ?_).mpr (k 9 (by omega) hlt h))
    rw [step 9 (by omega)]
    exact (lcmp_gt (by decide) (by decide) (by omega) (by omega)).mpr (by omega)
  | succ g ih =>
    intro j hj h
    have hb := b10 j (by omega)
    refine s_M_writeNumber_21 _ _ _ ?_
    rw [step j (by omega)]
    have key : ∀ u : Nat, u ≤ 10000000000 → (0 < lcmpV (z64 (u : Int)) (z64 (n : Int)) ↔ n < u) := fun u hu => (lcmp_gt (by omega) (by omega) (by omega) (by omega)).trans (by omega)
    have hc := key _ hb
    refine brP_i (fun q => k j (by omega) ?_ h) (fun q => ih (j + 1) (by omega) (Or.inl ?_))
    · exact hc.mp q
    · rcases Nat.lt_or_ge n (10 ^ (j + 1)) with c | c
      · exact absurd (hc.mpr c) q
      · exact c
theorem c_mwnum {d : Nat} {I : IM} {D : DY} {K : IM → Prop} {t : Tx} {x : Int32} (h : WLm I t) (hl : t.length + 11 ≤ 80) (k : ∀ I2, WRm I I2 → WLm I2 (t ++ nuV x) → K I2) : CV (d + 1) 226 [vR (some 106), vI x] (mm I D) K := by
  have hb := i32_b x
  refine s_M_writeNumber _ ?_
  rw [z64_of, show (0 : Int64) = z64 0 from rfl]
  have fin : ∀ (J : IM) (u : Tx), WLm J u → u.length + 10 ≤ 80 → (∀ I2, WRm J I2 → WLm I2 (u ++ dgN 10 false x.toInt.natAbs) → K I2) → Wp GG (d + 1) 226 21 [vR (some 106), vI x, vL (z64 (x.toInt.natAbs : Int)), vT, vL 1, vT] [] (mm J D) (qV (mm I D) K) := fun J u hJ hu kk => by
    refine mnum_find (d := d) (n := x.toInt.natAbs) (by omega) (fun j hj h1 h2 => ?_) 9 0 rfl (Or.inr rfl)
    refine mnum_out (d := d) (by omega) (j + 1) (by omega) J u _ hJ (by omega) (fun c => by omega) (fun i hi => by rw [show i = j by omega]) (fun I2 f2 w2 => ⟨_, rfl, rfl, kk I2 f2 ?_⟩)
    rw [Nat.mod_eq_of_lt h1] at w2
    rw [dgN_lead h1 h2 10 (by omega)]
    exact w2
  have hlc := lcmp_lt (a := x.toInt) (b := 0) (by omega) (by omega) (by omega) (by omega)
  refine brP_i (fun q => ?_) (fun q => ?_)
  · have q : ¬ x.toInt < 0 := fun c => absurd q (Int32.not_le.mpr (hlc.mpr c))
    have e : nuV x = dgN 10 false x.toInt.natAbs := by
      unfold nuV
      rw [if_neg q]
      rfl
    rw [e] at k
    have e2 : z64 x.toInt = z64 (x.toInt.natAbs : Int) := by congr 1; omega
    rw [e2]
    exact fin I t h (by omega) k
  · have q : x.toInt < 0 := hlc.mp (Int32.not_le.mp q)
    have e : nuV x = 45 :: dgN 10 false x.toInt.natAbs := by
      unfold nuV
      rw [if_pos q]
      rfl
    rw [e] at k
    have e2 : -z64 x.toInt = z64 (x.toInt.natAbs : Int) := by rw [z64_neg]; congr 1; omega
    rw [e2]
    refine c_mwsign h (by omega) (fun I2 f2 w2 => fin I2 _ w2 (by rw [List.length_append, List.length_singleton]; omega) (fun I3 f3 w3 => k I3 (f2.tr f3) ?_))
    rw [List.append_assoc] at w3
    exact w3
theorem kd_word : ∀ k : Nat, k < 9 → wdsL.getD k [] = kindW.getD k [] := by decide
/-- an event, written: the word of its kind, then the rest -/
theorem mword_loop {d : Nat} {D : DY} {Q : Option PV → PM → Prop} {p1 : Int32} : ∀ (W R : Tx) (p : Nat) (I : IM) (t : Tx), WRD I → wdT.drop p = W ++ 32 :: R → (∀ x ∈ W, x ≠ 32) → WLm I t → t.length + W.length ≤ 80 →
    (∀ I2 q, WRm I I2 → WLm I2 (t ++ W) → q < 163 → I2 108 q = 32 → Wp GG (d + 1) 225 27 [vR (some 106), vI p1, vI (z32 (q : Int))] [] (mm I2 D) Q) →
    Wp GG (d + 1) 225 27 [vR (some 106), vI p1, vI (z32 (p : Int))] [] (mm I D) Q := by
  intro W
  induction W with
  | nil =>
    intro R p I t hW hd hx h hl k
    obtain ⟨g1, g2, g3⟩ := drop_get (show wdT.drop p = 32 :: R from hd)
    rw [wdT_len] at g1
    refine k I p WRm.rf ?_ g1 (by rw [hW p g1, g2])
    rw [List.append_nil]
    exact h
  | cons x W ih =>
    intro R p I t hW hd hx h hl k
    rw [List.length_cons] at hl
    obtain ⟨g1, g2, g3⟩ := drop_get (show wdT.drop p = x :: (W ++ 32 :: R) from hd)
    rw [wdT_len] at g1
    have hb : inB (z32 (p : Int)) 163 := inB_n g1 (by omega)
    refine s_M_writeEvent_27 _ _ (tsP_i hb ?_)
    rw [ix_n (by omega), hW p g1, g2]
    refine (brP_f (hx x List.mem_cons_self)).mpr (tsP_i hb (c_mwsign h (by omega) (fun I2 f2 w2 => ?_)))
    rw [z32_s]
    refine ih R (p + 1) I2 _ (hW.sf f2.s.t) g3 (fun y hy => hx y (List.mem_cons_of_mem _ hy)) w2 (by rw [List.length_append, List.length_singleton]; omega) (fun I3 q f3 w3 hq h3 => k I3 q (f2.tr f3) ?_ hq h3)
    rw [List.append_assoc] at w3
    exact w3
theorem c_mwrite {d : Nat} {I : IM} {D : DY} {K : IM → Prop} {C : CF} {L : List EV} {i : Nat} {e : EV} (hW : WRD I) (hE : EVM I L) (he : L[i]? = some e) (ho : okEv C e) (hc : CWF C) (hv : eV e ≤ 240)
    (k : ∀ I2, WRm I I2 → WLm I2 (txV (i + 1) e) → K I2) : CV (d + 2) 225 [vR (some 106), vI (z32 ((i + 1 : Nat) : Int))] (mm I D) K := by
  have hi := lt_of_get he
  have h240 := hE.2.1
  obtain ⟨o1, o2, o3, o4⟩ := ho
  have hf := hc.1 _ o2
  have a1 := nu3 (i + 1) (by omega)
  have a2 := nu3 (eS e) (by omega)
  have a3 := nu3 (eV e) hv
  have a4 := nu3 (eF e) (by omega)
  have a5 := nuV_len (eA e)
  have a6 := nuV_len (eB e)
  have a7 := kindW_len _ o2
  have hb : inB (z32 ((i + 1 : Nat) : Int)) 241 := inB_n (by omega) (by omega)
  have ix : ixN (z32 ((i + 1 : Nat) : Int)) = i + 1 := ix_n (by omega)
  have col : ∀ {J : IM}, WRm I J → ∀ c, c < 6 → J (113 + c) (i + 1) = colE c e := fun f c hc => (f _ _ (by omega)).trans (hE.2.2.1 i e he c hc)
  refine s_M_writeEvent _ ?_
  have f0 : WRm I (up2 I 106 47 0) := fun q j hq => if_neg (fun c => hq (Or.inl c))
  have w0 : WLm (up2 I 106 47 0) [] := ⟨up2_eq, Nat.zero_le _, fun j hj => absurd hj (Nat.not_lt_zero j)⟩
  refine c_mwnum (d := d) w0 (by simp) (fun I1 f1 w1 => ?_)
  rw [List.nil_append] at w1
  have g1 := f0.tr f1
  refine c_mwsign w1 (by omega) (fun I2 f2 w2 => ?_)
  have g2 := g1.tr f2
  have c2 : I2 115 (i + 1) = z32 (eK e : Int) := col g2 2 (by omega)
  refine tsP_i hb ?_
  rw [ix, c2, e_place (hW.sf g2.s.t) (by omega)]
  obtain ⟨-, -, hd, hd4⟩ := plW_ok (eK e) (by omega)
  refine mword_loop (d := d + 1) _ _ (plW (eK e)) I2 _ (hW.sf g2.s.t) hd (wds32 _ (by omega)) w2 ?_ (fun I3 q f3 w3 hq h3 => ?_)
  · rw [kd_word _ o2]
    simp only [List.length_append, List.length_singleton]
    omega
  rw [kd_word _ o2] at w3
  have g3 := g2.tr f3
  refine s_M_writeEvent_27 _ _ (tsP_i (inB_n hq (by omega)) ?_)
  rw [ix_n (n := q) (by omega), ix]
  refine (brP_t h3).mpr ?_
  refine c_mwsign w3 (by simp only [List.length_append, List.length_singleton]; omega) (fun I4 f4 w4 => tsP_i hb ?_)
  have g4 := g3.tr f4
  have c0 : I4 113 (i + 1) = z32 (eS e : Int) := col g4 0 (by omega)
  rw [c0]
  refine c_mwnum (d := d) w4 (by simp only [List.length_append, List.length_singleton]; omega) (fun I5 f5 w5 => ?_)
  have g5 := g4.tr f5
  refine c_mwsign w5 (by simp only [List.length_append, List.length_singleton]; omega) (fun I6 f6 w6 => tsP_i hb ?_)
  have g6 := g5.tr f6
  have c1 : I6 114 (i + 1) = z32 (eV e : Int) := col g6 1 (by omega)
  rw [c1]
  refine c_mwnum (d := d) w6 (by simp only [List.length_append, List.length_singleton]; omega) (fun I7 f7 w7 => ?_)
  have g7 := g6.tr f7
  refine c_mwsign w7 (by simp only [List.length_append, List.length_singleton]; omega) (fun I8 f8 w8 => ?_)
  refine c_mwsign w8 (by simp only [List.length_append, List.length_singleton]; omega) (fun I9 f9 w9 => ?_)
  refine c_mwsign w9 (by simp only [List.length_append, List.length_singleton]; omega) (fun I10 f10 w10 => tsP_i hb ?_)
  have g10 := ((g7.tr f8).tr f9).tr f10
  have c4 : I10 117 (i + 1) = eA e := col g10 4 (by omega)
  rw [c4]
  refine c_mwnum (d := d) w10 (by simp only [List.length_append, List.length_singleton]; omega) (fun I11 f11 w11 => ?_)
  have g11 := g10.tr f11
  refine c_mwsign w11 (by simp only [List.length_append, List.length_singleton]; omega) (fun I12 f12 w12 => ?_)
  refine c_mwsign w12 (by simp only [List.length_append, List.length_singleton]; omega) (fun I13 f13 w13 => ?_)
  refine c_mwsign w13 (by simp only [List.length_append, List.length_singleton]; omega) (fun I14 f14 w14 => tsP_i hb ?_)
  have g14 := ((g11.tr f12).tr f13).tr f14
  have c5 : I14 118 (i + 1) = eB e := col g14 5 (by omega)
  rw [c5]
  refine c_mwnum (d := d) w14 (by simp only [List.length_append, List.length_singleton]; omega) (fun I15 f15 w15 => ?_)
  have g15 := g14.tr f15
  refine c_mwsign w15 (by simp only [List.length_append, List.length_singleton]; omega) (fun I16 f16 w16 => ?_)
  refine c_mwsign w16 (by simp only [List.length_append, List.length_singleton]; omega) (fun I17 f17 w17 => tsP_i hb ?_)
  have g17 := (g15.tr f16).tr f17
  have c3 : I17 116 (i + 1) = z32 (eF e : Int) := col g17 3 (by omega)
  rw [c3]
  refine c_mwnum (d := d) w17 (by simp only [List.length_append, List.length_singleton]; omega) (fun I18 f18 w18 => qV_i ?_)
  exact k I18 (g17.tr f18) w18
theorem mdig_in {d : Nat} {D : DY} {Q : Option PV → PM → Prop} {I : IM} {t : Tx} {p1 l3 : Int32} (h : WLm I t) : ∀ (xs pre : Tx) (dg : Int32), t = pre ++ xs → Wp GG (d + 1) 231 21 [vR (some 106), vI p1, vI (dgT dg xs), vI (l3 + 1), vI (z32 (t.length : Int))] [] (mm I D) Q →
    Wp GG (d + 1) 231 34 [vR (some 106), vI p1, vI dg, vI l3, vI (z32 (pre.length : Int))] [] (mm I D) Q := by
  have h80 := h.2.1
  intro xs
  induction xs with
  | nil =>
    intro pre dg hp k
    have e : t.length = pre.length := by rw [hp, List.append_nil]
    refine s_M_digest_34 _ _ _ _ ?_
    rw [h.1]
    refine (brP_t (by rw [z32_le] <;> omega)).mpr ?_
    rw [← e]
    exact k
  | cons c xs ih =>
    intro pre dg hp k
    have e : t.length = pre.length + (xs.length + 1) := by rw [hp, List.length_append, List.length_cons]
    have ih := fun dg => ih (pre ++ [c]) dg (by rw [hp, List.append_assoc]; rfl)
    rw [List.length_append, List.length_singleton] at ih
    refine s_M_digest_34 _ _ _ _ ?_
    rw [h.1]
    refine (brP_f (by rw [z32_le] <;> omega)).mpr (tsP_i (inB_n (by omega) (by omega)) ?_)
    rw [ix_n (by omega), h.2.2 _ (by omega), z32_s]
    have ec : t.getD pre.length 0 = c := by rw [List.getD_eq_getElem?_getD, hp, get_mid]; rfl
    rw [ec]
    exact ih _ k
theorem mdig_out {d : Nat} {D : DY} {K : Int64 → IM → Prop} {C : CF} {L : List EV} {n : Nat} {I0 : IM} (hW : WRD I0) (hE : EVM I0 L) (hn : n ≤ L.length) (ho : ∀ e ∈ L, okEv C e) (hc : CWF C) (hv : ∀ e ∈ L, eV e ≤ 240) : ∀ (g i : Nat) (I : IM) (dg : Int32) (w4 : PV), i + g = n → WRm I0 I →
    (∀ I2, WRm I0 I2 → K ((dgL ((L.drop i).take g) (i + 1) dg).toInt64 &&& 4294967295) I2) → Wp GG (d + 3) 231 21 [vR (some 106), vI (z32 (n : Int)), vI dg, vI (z32 ((i + 1 : Nat) : Int)), w4] [] (mm I D) (qL (mm I0 D) K) := by
  have h240 := hE.2.1
  intro g
  induction g with
  | zero =>
    intro i I dg w4 hi hr k
    exact s_M_digest_21 _ _ _ _ ((brP_t (by rw [z32_lt] <;> omega)).mpr (qL_i (k I hr)))
  | succ g ih =>
    intro i I dg w4 hi hr k
    obtain ⟨e, he⟩ : ∃ e, L[i]? = some e := ⟨L[i]'(by omega), List.getElem?_eq_getElem (by omega)⟩
    have hm := List.mem_of_getElem? he
    have ed : (L.drop i).take (g + 1) = e :: (L.drop (i + 1)).take g := by
      rw [List.drop_eq_getElem_cons (by omega), List.take_succ_cons]
      congr 1
      rw [List.getElem?_eq_getElem (by omega)] at he
      exact Option.some.inj he
    rw [ed] at k
    refine s_M_digest_21 _ _ _ _ ((brP_f (by rw [z32_lt] <;> omega)).mpr ?_)
    refine c_mwrite (d := d) (hW.sf hr.s.t) (hE.st hr.s.t) he (ho e hm) hc (hv e hm) (fun I2 f2 w2 => ?_)
    refine mdig_in (d := d + 2) w2 (txV (i + 1) e) [] dg (List.nil_append _).symm ?_
    rw [z32_s]
    exact ih (i + 1) I2 _ _ (by omega) (hr.tr f2) k
section
variable {d : Nat} {I : IM} {D : DY} {τ : ST}
theorem q_text {K : Int32 → IM → Prop} (h : RM τ I) (wf : WF (tS τ)) (p i : Int32) (k : ∀ I2, FrC I I2 → RM τ I2 → K (S_text τ p i) I2) : CI (d + 100) 224 [vR (some 106), vI p, vI i] (mm I D) K := by
  have h240 := h.E.2.1
  unfold S_text at k
  refine s_M_text _ _ ?_
  rw [e_mpos h.E]
  refine br0 (fun hp => ?_) (fun hp => qI_i ?_)
  · refine brP_i (fun hi => ?_) (fun hi => qI_i ?_)
    · rw [if_pos ⟨hp, hi⟩] at k
      obtain ⟨n, rfl, hn⟩ := rng1 (by omega) hp
      obtain ⟨e, he⟩ : ∃ e, (zL (tS τ))[n]? = some e := ⟨_, List.getElem?_eq_getElem (by omega)⟩
      rw [aN_z (by omega), Nat.add_sub_cancel, he] at k
      have hm := List.mem_of_getElem? he
      refine c_mwrite (d := d + 97) h.2.1 h.E he (wf.1 e hm) h.C.2.2.1 (VOL.b wf.2.1 h240 e hm) (fun I2 f2 w2 => ?_)
      have k := k I2 f2.s.c (h.sf f2.s)
      dsimp only at k
      rw [w2.1]
      refine brP_i (fun c => ?_) (fun c => qI_i ?_)
      · have h80 := w2.2.1
        rw [if_neg (fun q => by rw [q] at c; exact absurd c (by decide))] at k
        refine brP_i (fun c2 => qI_i ?_) (fun c2 => ?_)
        · rw [if_pos c2] at k
          exact k
        · rw [if_neg c2] at k
          obtain ⟨m, rfl, hm80⟩ := rng (x := i) (m := (txV (n + 1) e).length) (by omega) ⟨c, by rw [Int32.le_iff_lt_or_eq]; exact Or.inl (Int32.not_le.mp c2)⟩
          rw [z32_le (by omega) (by omega) (by omega) (by omega)] at c2
          rw [aN_z (by omega)] at k
          refine tsP_i (inB_n (by omega) (by omega)) (qI_i ?_)
          rw [ix_n (by omega), w2.2.2 m (by omega)]
          exact k
      · have e1 : i = -1 := by
          obtain ⟨y, rfl, y1, y2⟩ := z32_all i
          rw [z32_0, z32_le (by omega) (by omega) y1 y2] at c
          rw [z32_m1, z32_le (by omega) (by omega) y1 y2] at hi
          rw [show y = -1 by omega]
          rfl
        rw [if_pos e1] at k
        exact k
    · rw [if_neg (fun c => hi c.2)] at k
      exact k I FrC.rf h
  · rw [if_neg (fun c => hp c.1)] at k
    exact k I FrC.rf h
theorem q_digest {K : Int64 → IM → Prop} (h : RM τ I) (wf : WF (tS τ)) (p : Int32) (k : ∀ I2, FrC I I2 → RM τ I2 → K (S_digest τ p) I2) : CL (d + 100) 231 [vR (some 106), vI p] (mm I D) K := by
  have h240 := h.E.2.1
  unfold S_digest at k
  refine s_M_digest _ ?_
  rw [h.E.1, e_in]
  refine br1 (fun q => ?_) (fun q => qL_i ?_)
  · have q' : 0 ≤ p ∧ p ≤ z32 ((zL (tS τ)).length : Int) := q
    rw [if_pos q'] at k
    obtain ⟨n, rfl, hn⟩ := rng (by omega) q'
    rw [aN_z (by omega)] at k
    exact mdig_out (d := d + 97) h.2.1 h.E hn wf.1 h.C.2.2.1 (VOL.b wf.2.1 h240) n 0 I 7 vT (Nat.zero_add _) WRm.rf (fun I2 f => k I2 f.s.c (h.sf f.s))
  · have q' : ¬ (0 ≤ p ∧ p ≤ z32 ((zL (tS τ)).length : Int)) := q
    rw [if_neg q'] at k
    exact k I FrC.rf h
end
