/-! The model copies formulas; its call for an upcaster. -/
def CPY (I I2 : IM) (a b : Nat) : Prop := (∀ q k, ¬ ((q = 109 ∧ 245 * b ≤ k ∧ k < 245 * b + 245) ∨ (q = 110 ∧ k = b)) → I2 q k = I q k) ∧ I2 110 b = I 110 a ∧ ∀ n k : Nat, I 110 a = z32 (n : Int) → n ≤ 245 → k < n → I2 109 (245 * b + k) = I 109 (245 * a + k)
theorem CPY.fm {I I2 : IM} {a b : Nat} {e : Tx} (h : CPY I I2 a b) (hf : FMc I a e) : FMc I2 b e := ⟨h.2.1.trans hf.1, hf.2.1, fun k hk => (h.2.2 _ k hf.1 hf.2.1 hk).trans (hf.2.2 k hk)⟩
theorem CPY.slb {I I2 : IM} {a b : Nat} (h : CPY I I2 a b) (ha : a < 160) (hs : SLB I) : SLB I2 := fun s hs2 => by
  by_cases q : s = b
  · rw [q, h.2.1]
    exact hs a ha
  · obtain ⟨n, b1, b2⟩ := hs s hs2
    exact ⟨n, b1, (h.1 _ _ (by omega)).trans b2⟩
theorem CPY.tp {I I2 : IM} {a b : Nat} {T : Tx} (h : CPY I I2 a b) (ha : a < 160) (ht : TPm I T) : TPm I2 T := ht.fb (h.1 _ _ (by omega)) (fun k => h.1 _ _ (by omega)) (h.slb ha ht.2.2.2.2)
theorem mul245 (n : Nat) : 245 * z32 (n : Int) = z32 ((245 * n : Nat) : Int) := by
  show z32 245 * _ = _
  rw [z32_mul]
  congr 1
theorem c_mcopy {d : Nat} {I : IM} {D : DY} {K : IM → Prop} {a b : Nat} (hs : SLB I) (ha : a < 160) (hb : b < 160) (hne : a ≠ b) (k : ∀ I2, CPY I I2 a b → K I2) : CV d 190 [vR (some 106), vI (z32 (a : Int)), vI (z32 (b : Int))] (mm I D) K := by
  obtain ⟨n, hn, hna⟩ := hs a ha
  have hpa : inB (z32 (a : Int)) 160 := inB_n ha (by omega)
  have hpb : inB (z32 (b : Int)) 160 := inB_n hb (by omega)
  have loop : ∀ (g j : Nat) (J : IM), j + g = n → (∀ q k, ¬ ((q = 109 ∧ 245 * b ≤ k ∧ k < 245 * b + 245) ∨ (q = 110 ∧ k = b)) → J q k = I q k) → J 110 b = I 110 a → (∀ i, i < j → J 109 (245 * b + i) = I 109 (245 * a + i)) → Wp GG d 190 14 [vR (some 106), vI (z32 (a : Int)), vI (z32 (b : Int)), vI (z32 (j : Int))] [] (mm J D) (qV (mm I D) K) := by
    intro g
    induction g with
    | zero =>
      intro j J hj f e c
      obtain rfl : j = n := by omega
      refine s_M_copyFormula_14 _ _ _ (tsP_i hpa ?_)
      rw [ix_n (by omega), f 110 a (by omega), hna]
      refine (brP_t (by rw [z32_le] <;> omega)).mpr ⟨_, rfl, rfl, k J ⟨f, e, fun m i hm hm2 hi => c i ?_⟩⟩
      rw [hna, z32_inj (by omega) (by omega) (by omega) (by omega)] at hm
      omega
    | succ g ih =>
      intro j J hj f e c
      refine s_M_copyFormula_14 _ _ _ (tsP_i hpa ?_)
      rw [ix_n (n := a) (by omega), f 110 a (by omega), hna, mul245, mul245, addn, addn]
      refine (brP_f (by rw [z32_le] <;> omega)).mpr (tsP_i (inB_n (by omega) (by omega)) (tsP_i (inB_n (by omega) (by omega)) ?_))
      rw [ix_n (by omega), ix_n (by omega), z32_s]
      refine ih (j + 1) _ (by omega) (fun q i h => ?_) (by rw [up2_ne (by omega)]; exact e) (fun i hi => ?_)
      · rw [up2_if, if_neg (by omega)]
        exact f q i h
      · by_cases q : i = j
        · rw [q, up2_eq, f 109 _ (by omega)]
        · rw [up2_nj (by omega)]
          exact c i (by omega)
  refine s_M_copyFormula _ _ (tsP_i hpa (tsP_i hpb ?_))
  rw [ix_n (n := b) (by omega), ix_n (n := a) (by omega)]
  exact loop n 0 _ (Nat.zero_add _) (fun q i h => by rw [up2_if, if_neg (by omega)]) up2_eq (fun i hi => absurd hi (Nat.not_lt_zero _))
theorem aft_in {α : Type} {q : PR α} {s : Tx} (h : aft q = .inl s) : ∃ a, q = .inl (a, s) := by
  rcases q with ⟨a, s2⟩ | m
  · cases h
    exact ⟨a, rfl⟩
  · cases h
theorem sq_in {α : Type} {r : PS} {X : Tx → PR α} {a : α} {s : Tx} (h : sq r X = .inl (a, s)) : ∃ s0, r = .inl s0 := by
  rcases r with s0 | m
  · exact ⟨s0, rfl⟩
  · cases h
section
variable {d : Nat} {I : IM} {D : DY} {τ : ST}
theorem q_upcast {K : Int32 → IM → Prop} (h : RM τ I) (k : ∀ I2, FrC I I2 → RM (S_upcast τ).1 I2 → K (S_upcast τ).2 I2) : CI (d + 100) 170 [vR (some 106)] (mm I D) K := by
  have h160 := h.1.2.1
  unfold S_upcast at k
  refine s_M_upcast (m_begin h.1 (fun I1 f1 M1 => ?_))
  have hW := h.2.1
  refine m_word (d := d + 97) (lo := 0) (hi := 8) (ws := kindW) (hW.nf f1) M1 (by omega) (by decide) (fun x I2 f2 M2 hv he => ?_)
  obtain ⟨k0, hk0, e1⟩ := sq_v (.inl (tT τ)) (wdP kindW)
  have e1 := e1 (fun k s => bnd (tkP 58 s) (fun _ s => bnd (cP absV 0 s) (fun a s => bnd (tkP 44 s) (fun _ s => bnd (cP absV 0 s) (fun b s => (.inl ((k, a, b), s) : PR (Nat × Tx × Tx)))))))
  have e1 : upP (tT τ) = _ := e1
  rw [sq_b] at e1
  generalize hr1 : aft (sq (.inl (tT τ)) (wdP kindW)) = r1 at *
  refine m_take (d := d + 98) M2 (by decide) (fun I3 f3 M3 _ => ?_)
  generalize hr2 : aft (sq r1 (tkP 58)) = r2 at *
  refine m_formula (d := d + 33) (vs := absV) (sl := 70) (Or.inl ⟨rfl, rfl⟩) (by omega) M3 (fun I4 f4 M4 c4 => ?_)
  obtain ⟨a0, ha0, e2⟩ := sq_v r2 (cP absV 0)
  rw [e2 (fun a s => bnd (tkP 44 s) (fun _ s => bnd (cP absV 0 s) (fun b s => (.inl ((k0, a, b), s) : PR (Nat × Tx × Tx))))), sq_b] at e1
  generalize hr3 : aft (sq r2 (cP absV 0)) = r3 at *
  refine m_take (d := d + 98) M4 (by decide) (fun I5 f5 M5 _ => ?_)
  generalize hr4 : aft (sq r3 (tkP 44)) = r4 at *
  refine m_formula (d := d + 33) (vs := absV) (sl := 71) (Or.inl ⟨rfl, rfl⟩) (by omega) M5 (fun I6 f6 M6 c6 => ?_)
  have e1 : upP (tT τ) = bnd (sq r4 (cP absV 0)) (fun b s => (.inl ((k0, a0, b), s) : PR (Nat × Tx × Tx))) := by
    rw [e1]
    cases r4 <;> rfl
  have hq : aft (upP (tT τ)) = aft (sq r4 (cP absV 0)) := by rw [e1]; exact aft_m _ (fun b => (k0, a0, b))
  rw [← hq] at M6
  have fI : SFt I I6 := f1.s.t.tr (f2.s.t.tr (f3.s.t.tr ((f4.t (by omega) (by omega)).tr (f5.s.t.tr (f6.t (by omega) (by omega))))))
  refine m_end_br (d := d + 98) M6 (fun u I7 h1 h2 h3 h4 => ?_) (fun f I7 h1 h3 h4 h5 h6 h7 => qI_i ?_)
  rotate_left
  · rw [h1] at k
    rw [h6]
    have fE := fI.tr h3.t
    exact k I7 fE.c (h.tp fE h4)
  have fE : SFt I I7 := fI.tr h3.t
  rw [h1] at k
  have k : ∀ J, FrC I J → RM ([], (upcS (tS τ) u.1 u.2.1 u.2.2).1, tI τ) J → K (upcS (tS τ) u.1 u.2.1 u.2.2).2 J := k
  obtain ⟨hu9, wa, wb⟩ := upP_wf h160 h2
  -- what was read
  have hin : ∃ b s4, sq r4 (cP absV 0) = .inl (b, []) ∧ r4 = .inl s4 ∧ u = (k0, a0, b) := by
    rw [e1] at h2
    obtain ⟨b, s1, q1, q2⟩ := bnd_inv h2
    cases q2
    obtain ⟨s4, q3⟩ := sq_in q1
    exact ⟨b, s4, q1, q3, rfl⟩
  obtain ⟨b0, s4, q4, hr4', rfl⟩ := hin
  obtain ⟨_, q5⟩ := aft_in (hr4.trans hr4')
  obtain ⟨s3, hr3'⟩ := sq_in q5
  obtain ⟨a1, q6⟩ := aft_in (hr3.trans hr3')
  obtain ⟨s2, hr2'⟩ := sq_in q6
  obtain ⟨_, q7⟩ := aft_in (hr2.trans hr2')
  obtain ⟨s1, hr1'⟩ := sq_in q7
  obtain ⟨k1, q8⟩ := aft_in (hr1.trans hr1')
  obtain rfl := ha0 a1 s3 q6
  obtain rfl := hk0 k1 s1 q8
  obtain rfl := hv k1 s1 q8
  have hk9 : k1 < 9 := hu9
  have F70 : FMc I7 70 (encV a1) := (c4 a1 s3 q6).mv (fun j _ _ => (h3 _ _ (by omega)).trans ((f6 _ _ (by omega)).trans (f5 _ _ (by omega)))) ((h3 _ _ (by omega)).trans ((f6 _ _ (by omega)).trans (f5 _ _ (by omega))))
  have F71 : FMc I7 71 (encV b0) := (c6 b0 [] q4).mv (fun j _ _ => h3 _ _ (by omega)) (h3 _ _ (by omega))
  have hR := h.2.2.1.st fE
  obtain ⟨cE, cC, cN, cA, cP2, cQ, cY, cD, cV, cH⟩ := hR
  have hc3 := cC.2.2.1.1 k1 hk9
  have hb9 : inB (z32 (k1 : Int)) 9 := inB_n hk9 (by omega)
  have ix : ixN (z32 (k1 : Int)) = k1 := ix_n (by omega)
  refine tsP_i hb9 ?_
  rw [ix, cC.2.1 k1 hk9]
  refine brP_i (fun q => ?_) (fun q => qI_i ?_)
  rotate_left
  · have q : z32 ((zC (tS τ) k1).length : Int) = z32 3 := Classical.not_not.mp q
    rw [z32_inj (by omega) (by omega) (by omega) (by omega)] at q
    have e : upcS (tS τ) k1 a1 b0 = (tS τ, -3) := if_neg (by omega)
    have k := k I7 fE.c
    dsimp only at k
    rw [e] at k
    exact k (h.tp fE h4)
  have hlt : (zC (tS τ) k1).length < 3 := by
    rcases Nat.lt_or_ge (zC (tS τ) k1).length 3 with c | c
    · exact c
    · exact absurd (by rw [show (zC (tS τ) k1).length = 3 by omega]; rfl) q
  have eU : upcS (tS τ) k1 a1 b0 = (wC (tS τ) (addC (zC (tS τ)) k1 a1 b0), z32 (((zC (tS τ) k1).length + 2 : Nat) : Int)) := if_pos hlt
  have k : ∀ J, FrC I J → RM ([], wC (tS τ) (addC (zC (tS τ)) k1 a1 b0), tI τ) J → K (z32 (((zC (tS τ) k1).length + 2 : Nat) : Int)) J := fun J => by
    have := k J
    dsimp only at this
    rw [eU] at this
    exact this
  refine tsP_i hb9 ?_
  rw [e_slot0]
  refine c_mcopy (a := 70) h4.2.2.2.2 (by omega) (by omega) (by omega) (fun I8 p8 => ?_)
  obtain ⟨g8, -⟩ := id p8
  have t8 := p8.tp (by omega) h4
  refine tsP_i hb9 ?_
  rw [g8 119 k1 (by omega), cC.2.1 k1 hk9, e_slot1]
  have F71' : FMc I8 71 (encV b0) := F71.mv (fun j _ _ => g8 _ _ (by omega)) (g8 _ _ (by omega))
  refine c_mcopy (a := 71) t8.2.2.2.2 (by omega) (by omega) (by omega) (fun I9 p9 => ?_)
  obtain ⟨g9, -⟩ := id p9
  have t9 := p9.tp (by omega) t8
  refine tsP_i hb9 (tsP_i hb9 (tsP_i hb9 (qI_i ?_)))
  have e119 : I9 119 k1 = z32 ((zC (tS τ) k1).length : Int) := by rw [g9 _ _ (by omega), g8 _ _ (by omega), cC.2.1 k1 hk9]
  have e22 : I9 106 22 = z32 (eraC (zC (tS τ)) : Int) := by rw [g9 _ _ (by omega), g8 _ _ (by omega), cC.1]
  rw [up2_eq, e119, e22, z32_s, z32_s, z32_s]
  have g : ∀ q j, ¬ ((q = 109 ∧ 245 * (6 * k1 + 2 * (zC (tS τ) k1).length) ≤ j ∧ j < 245 * (6 * k1 + 2 * (zC (tS τ) k1).length) + 490) ∨ (q = 110 ∧ (j = 6 * k1 + 2 * (zC (tS τ) k1).length ∨ j = 6 * k1 + 2 * (zC (tS τ) k1).length + 1)) ∨ (q = 119 ∧ j = k1) ∨ (q = 106 ∧ j = 22)) →
      up2 (up2 I9 119 k1 (z32 (((zC (tS τ) k1).length + 1 : Nat) : Int))) 106 22 (z32 ((eraC (zC (tS τ)) + 1 : Nat) : Int)) q j = I7 q j := fun q j c => by
    rw [up2_if, if_neg (by omega), up2_if, if_neg (by omega), g9 q j (by omega), g8 q j (by omega)]
  have h78 : ∀ {J : IM}, J = up2 (up2 I9 119 k1 (z32 (((zC (tS τ) k1).length + 1 : Nat) : Int))) 106 22 (z32 ((eraC (zC (tS τ)) + 1 : Nat) : Int)) → K (z32 (((zC (tS τ) k1).length + 1 + 1 : Nat) : Int)) J := fun {J} hJ => by
    rw [← hJ] at g
    refine k J (fun q j e => (g q j (by omega)).trans (fE.c q j e)) ⟨?_, (h.2.1.sf fE).fr (fun j => g _ _ (by omega)), ?_, (h.2.2.2.st fE).mv (g _ _ (by omega)) (fun j => g _ _ (by omega)) (fun j hj => g _ _ (by omega)) (fun j hj => g _ _ (by omega))⟩
    · refine t9.fr (by rw [hJ, up2_nj (by omega), up2_ne (by omega)]) (fun j => by intro q hq; rw [hJ, up2_ne (by omega), up2_ne (by omega)])
    · refine ⟨cE.mv (fun q j z => g q j (by unfold ZE at z; omega)), ⟨?_, fun j hj => ?_, ⟨fun j hj => ?_, fun j i c hj hc => ?_⟩, fun j i c hj hc => ?_⟩, cN.mv (fun q j z => g q j (by unfold ZS at z; omega)), fun j hj => (g _ _ (by omega)).trans (cA j hj), cP2.mv (fun q j z => g q j (by unfold ZP at z; omega)), cQ.mv (fun q j z => g q j (by unfold ZQ at z; omega)), cY.mv (fun q j z => g q j (by unfold ZY at z; omega)), fun j hj => (g _ _ (by omega)).trans (cD j hj), (g _ _ (by omega)).trans cV, (g _ _ (by omega)).trans cH⟩
      · show J 106 22 = z32 ((eraC (addC (zC (tS τ)) k1 a1 b0) : Nat) : Int)
        rw [hJ, up2_eq, era_upd hk9]
      · show J 119 j = z32 (((addC (zC (tS τ)) k1 a1 b0) j).length : Int)
        by_cases q : j = k1
        · have e : addC (zC (tS τ)) k1 a1 b0 j = zC (tS τ) k1 ++ [(a1, b0)] := if_pos q
          rw [e, List.length_append, hJ, q, up2_ne (by omega), up2_eq]
          rfl
        · have e : addC (zC (tS τ)) k1 a1 b0 j = zC (tS τ) j := if_neg q
          rw [e, g _ _ (by omega)]
          exact cC.2.1 j hj
      · show ((addC (zC (tS τ)) k1 a1 b0) j).length ≤ 3
        by_cases q : j = k1
        · have e : addC (zC (tS τ)) k1 a1 b0 j = zC (tS τ) k1 ++ [(a1, b0)] := if_pos q
          rw [e, List.length_append, List.length_singleton]
          omega
        · have e : addC (zC (tS τ)) k1 a1 b0 j = zC (tS τ) j := if_neg q
          rw [e]
          exact cC.2.2.1.1 j hj
      · have hc : ((addC (zC (tS τ)) k1 a1 b0) j)[i]? = some c := hc
        by_cases q : j = k1
        · have e : addC (zC (tS τ)) k1 a1 b0 j = zC (tS τ) k1 ++ [(a1, b0)] := if_pos q
          rw [e] at hc
          rcases Nat.lt_or_ge i (zC (tS τ) k1).length with w | w
          · rw [List.getElem?_append_left w] at hc
            exact cC.2.2.1.2 k1 i c hk9 hc
          · have hi : i = (zC (tS τ) k1).length := by
              have := (List.getElem?_eq_some_iff.mp hc).1
              rw [List.length_append, List.length_singleton] at this
              omega
            rw [hi, List.getElem?_append_right (Nat.le_refl _), Nat.sub_self] at hc
            cases hc
            exact ⟨wa, wb⟩
        · have e : addC (zC (tS τ)) k1 a1 b0 j = zC (tS τ) j := if_neg q
          rw [e] at hc
          exact cC.2.2.1.2 j i c hj hc
      · have hc : ((addC (zC (tS τ)) k1 a1 b0) j)[i]? = some c := hc
        have old : (zC (tS τ) j)[i]? = some c → (j = k1 → i < (zC (tS τ) k1).length) → FMc J (6 * j + 2 * i) (encV c.1) ∧ FMc J (6 * j + 2 * i + 1) (encV c.2) := fun hc2 hlt2 => by
          have hi := cC.2.2.1.i3 hj hc2
          obtain ⟨x1, x2⟩ := cC.2.2.2 j i c hj hc2
          have hsep : 6 * j + 2 * i + 1 < 6 * k1 + 2 * (zC (tS τ) k1).length ∨ 6 * k1 + 2 * (zC (tS τ) k1).length + 1 < 6 * j + 2 * i := by
            rcases Nat.lt_trichotomy j k1 with w | w | w
            · omega
            · have := hlt2 w
              omega
            · omega
          exact ⟨x1.mv (fun t _ _ => g _ _ (by omega)) (g _ _ (by omega)), x2.mv (fun t _ _ => g _ _ (by omega)) (g _ _ (by omega))⟩
        by_cases q : j = k1
        · have e : addC (zC (tS τ)) k1 a1 b0 j = zC (tS τ) k1 ++ [(a1, b0)] := if_pos q
          rw [e] at hc
          rcases Nat.lt_or_ge i (zC (tS τ) k1).length with w | w
          · rw [List.getElem?_append_left w, ← q] at hc
            exact old hc (fun _ => w)
          · have hi : i = (zC (tS τ) k1).length := by
              have := (List.getElem?_eq_some_iff.mp hc).1
              rw [List.length_append, List.length_singleton] at this
              omega
            rw [hi, List.getElem?_append_right (Nat.le_refl _), Nat.sub_self] at hc
            cases hc
            rw [q, hi]
            have G8 := p8.fm F70
            have G9 := p9.fm F71'
            have up : ∀ t j2, t = 109 ∨ t = 110 → J t j2 = I9 t j2 := fun t j2 ht => by rw [hJ, up2_ne (by omega), up2_ne (by omega)]
            refine ⟨G8.mv (fun t w1 w2 => ?_) ?_, G9.mv (fun t w1 w2 => up _ _ (by omega)) (up _ _ (by omega))⟩
            · rw [up _ _ (by omega), g9 _ _ (by omega)]
            · rw [up _ _ (by omega), g9 _ _ (by omega)]
        · have e : addC (zC (tS τ)) k1 a1 b0 j = zC (tS τ) j := if_neg q
          rw [e] at hc
          exact old hc (fun c => absurd c q)
  exact h78 rfl
end
