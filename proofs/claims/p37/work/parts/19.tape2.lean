theorem sfx.hd {s T : Tx} (h : sfx s T) (hT : ∀ x ∈ T, 1 ≤ x.toInt ∧ x.toInt ≤ 255) {x : Int32} (hx : x ∈ s) : 1 ≤ x.toInt ∧ x.toInt ≤ 255 := hT x (List.mem_of_mem_drop (h.2 ▸ hx))
/-- what a number's reading ends in: the formula behind the loop -/
theorem num_fin {d : Nat} {I : IM} {D : DY} {K : Int32 → IM → Prop} {T s0 : Tx} {most : Int} (h1 : -2147483648 ≤ most) (h2 : most ≤ 2147483647) (hs : sfx s0 T) {f : Nat} (hf : f ≤ 4) (hl : f ≤ s0.length) (hg : dgOf s0 = s0.take f) (ha : (s0.take f).all digB = true) (h : PC I T (.inl (s0.drop f)))
    (k : ∀ x I2, PFr I I2 → PC I2 T (aft (nbP most s0)) → (∀ v s, nbP most s0 = .inl (v, s) → x = z32 v) → K x I2) :
    brP (z32 (f : Int) = 0) (CV d 24 [vR (some 46), vI (z32 ((T.length : Int) - s0.length))] (mm I D) (fun I1 => qI (mm I D) K (some (vI 0)) (mm I1 D)))
      (brP (z32 (dgV (s0.take f)) ≤ z32 most) (qI (mm I D) K (some (vI (z32 (dgV (s0.take f))))) (mm I D)) (CV d 24 [vR (some 46), vI (z32 ((T.length : Int) - s0.length))] (mm I D) (fun I1 => qI (mm I D) K (some (vI 0)) (mm I1 D)))) := by
  have hb := dgV_b f (s0.take f) (by rw [List.length_take]; omega) ha
  have hb2 : dgV (s0.take f) < 10000 := Int.lt_of_lt_of_le hb.2 (by
    rcases (by omega : f = 0 ∨ f = 1 ∨ f = 2 ∨ f = 3 ∨ f = 4) with rfl | rfl | rfl | rfl | rfl <;> decide)
  have hnb : nbP most s0 = if f = 0 ∨ most < dgV (s0.take f) then .inr s0.length else .inl (dgV (s0.take f), s0.drop f) := by
    unfold nbP
    rw [hg]
    have e1 : (s0.take f = []) ↔ f = 0 := by
      rw [← List.length_eq_zero_iff, List.length_take]
      omega
    have e2 : (s0.take f).length = f := by rw [List.length_take]; omega
    rw [e2]
    by_cases q : f = 0 ∨ most < dgV (s0.take f)
    · rw [if_pos q, if_pos (q.imp e1.mpr id)]
    · rw [if_neg q, if_neg (fun z => q (z.imp e1.mp id))]
  have hfail : f = 0 ∨ most < dgV (s0.take f) → CV d 24 [vR (some 46), vI (z32 ((T.length : Int) - s0.length))] (mm I D) (fun I1 => qI (mm I D) K (some (vI 0)) (mm I1 D)) := fun q => by
    rw [if_pos q] at hnb
    refine c_fail h (m := s0.length) (fun s hs => ⟨rfl, ‹sfx s0 T›.1⟩) (fun I2 hf2 hP => qI_i (k _ _ hf2 ?_ (fun v s e => ?_)))
    · rw [hnb]
      exact hP
    · rw [hnb] at e
      cases e
  have hz : (z32 (f : Int) = 0) ↔ f = 0 := by
    show z32 (f : Int) = z32 0 ↔ _
    rw [z32_inj] <;> omega
  refine brP_i (fun q => hfail (Or.inl (hz.mp q))) (fun q => brP_i (fun q2 => ?_) (fun q2 => hfail (Or.inr ?_)))
  · rw [z32_le (by omega) (by omega) (by omega) (by omega)] at q2
    rw [if_neg (by rw [hz] at q; omega)] at hnb
    refine qI_i (k _ _ PFr.rf ?_ (fun v s e => ?_))
    · rw [hnb]
      exact h
    · rw [hnb] at e
      cases e
      rfl
  · rw [z32_le (by omega) (by omega) (by omega) (by omega)] at q2
    omega
theorem num_loop {d : Nat} {I0 : IM} {D : DY} {K : Int32 → IM → Prop} {T s0 : Tx} {most : Int} (h1 : -2147483648 ≤ most) (h2 : most ≤ 2147483647) (hs : sfx s0 T)
    (k : ∀ x I2, PFr I0 I2 → PC I2 T (aft (nbP most s0)) → (∀ v s, nbP most s0 = .inl (v, s) → x = z32 v) → K x I2) : ∀ (g f : Nat), f + g = 4 → ∀ I : IM, PFr I0 I → f ≤ s0.length → (s0.take f).all digB = true → PC I T (.inl (s0.drop f)) →
    Wp GG (d + 1) 32 10 [vR (some 46), vI (z32 most), vI (z32 ((T.length : Int) - s0.length)), vI (z32 (dgV (s0.take f))), vI (z32 (f : Int))] [] (mm I D) (qI (mm I0 D) K) := by
  intro g
  have hq0 : ∀ {I : IM} {x : Option PV} {M : PM}, qI (mm I D) K x M → qI (mm I0 D) K x M := fun ⟨a, b, e1, e2, e3⟩ => ⟨a, b, e1, e2, e3⟩
  induction g with
  | zero =>
    intro f hfg I hI hl ha h
    obtain rfl : f = 4 := by omega
    refine s_Tape_number_10 _ _ _ _ ?_
    refine brP_i (fun _ => ?_) (fun q => absurd (by show z32 4 ≤ z32 4; rw [z32_le] <;> omega) q)
    exact num_fin (I := I) (K := K) h1 h2 hs (Nat.le_refl _) hl (dgOf_eq (Nat.le_refl _) hl ha (Or.inl rfl)) ha h (fun x I2 hf hP hv => k x I2 (hI.tr hf) hP hv)
  | succ g ih =>
    intro f hfg I hI hl ha h
    refine s_Tape_number_10 _ _ _ _ ?_
    refine brP_i (fun q => absurd q (by show ¬ z32 4 ≤ z32 (f : Int); rw [z32_le] <;> omega)) (fun _ => ?_)
    rw [e_peek h, e_isFig]
    refine brP_i (fun q => ?_) (fun q => ?_)
    · rw [b32_0] at q
      refine num_fin (I := I) (K := K) h1 h2 hs (by omega) hl (dgOf_eq (by omega) hl ha (Or.inr (fun x t e => ?_))) ha h (fun x I2 hf hP hv => k x I2 (hI.tr hf) hP hv)
      rw [e] at q
      simpa [pkV] using q
    · rw [b32_0] at q
      have q := Classical.not_not.mp q
      rw [e_peek h]
      cases hd : s0.drop f with
      | nil =>
        rw [hd] at q
        cases q
      | cons x t =>
        rw [hd] at h q
        have hx : digB x = true := q
        have hlt : f < s0.length := by
          have := congrArg List.length hd
          rw [List.length_drop, List.length_cons] at this
          omega
        have ht : s0.drop (f + 1) = t := by rw [← List.drop_drop, hd]; rfl
        have e1 : s0.take (f + 1) = s0.take f ++ [x] := by
          rw [List.take_add, hd]
          rfl
        have ha2 : (s0.take (f + 1)).all digB = true := by rw [e1, List.all_append, ha]; simp [hx]
        have e2 : z32 (dgV (s0.take f)) * 10 + x - 48 = z32 (dgV (s0.take (f + 1))) := by
          rw [e1, dgV_snoc]
          show z32 _ * z32 10 + x - z32 48 = _
          rw [z32_mul, z32_of x, z32_add, z32_sub, z32_toInt (i32_b x).1 (i32_b x).2]
          congr 1
          omega
        have e3 : z32 (f : Int) + 1 = z32 ((f + 1 : Nat) : Int) := by
          show z32 _ + z32 1 = _
          rw [z32_add]
          rfl
        show Wp GG (d + 1) 32 10 [vR (some 46), vI (z32 most), vI (z32 ((T.length : Int) - s0.length)), vI (z32 (dgV (s0.take f)) * 10 + x - 48), vI (z32 (f : Int) + 1)] [] _ _
        rw [e2, e3]
        refine ih (f + 1) (by omega) _ (hI.tr (PFr.up (by omega))) (by omega) ha2 ?_
        rw [ht]
        exact h.next
theorem c_number {d : Nat} {I : IM} {D : DY} {K : Int32 → IM → Prop} {T : Tx} {r : PS} {most : Int} (h1 : -2147483648 ≤ most) (h2 : most ≤ 2147483647) (h : PC I T r)
    (k : ∀ x I2, PFr I I2 → PC I2 T (aft (sq r (nbP most))) → (∀ v s, sq r (nbP most) = .inl (v, s) → x = z32 v) → K x I2) : CI (d + 1) 32 [vR (some 46), vI (z32 most)] (mm I D) K := by
  refine s_Tape_number _ ?_
  rw [h.2.2.1]
  cases r with
  | inl s =>
    have := num_loop (d := d) (D := D) (I0 := I) (K := K) h1 h2 h.2.1 k 4 0 rfl I PFr.rf (Nat.zero_le _) rfl h
    exact this
  | inr m =>
    refine s_Tape_number_10 _ _ _ _ ?_
    refine brP_i (fun q => absurd q (by show ¬ z32 4 ≤ z32 0; rw [z32_le] <;> omega)) (fun _ => ?_)
    rw [e_peek h, e_isFig]
    rw [brP_t (by rw [b32_0]; show ¬ digB 0 = true; decide), brP_t rfl]
    refine c_fail h (m := m) (fun s hs => by cases hs) (fun I2 hf hP => qI_i (k _ _ hf hP (fun v s e => by cases e)))
/-- a stretch of a text against a stretch of the tape -/
theorem same_loop {d : Nat} {I : IM} {D : DY} {T : Tx} {j : Nat} (hI : SOK I) (hj : j < 22) (ht : TP I T) {b e p : Nat} (he : e ≤ (sL j).length) (hp : p + (e - b) ≤ T.length) : ∀ (g i : Nat), i + g = e → b ≤ i → ((sL j).drop b).take (i - b) = (T.drop p).take (i - b) → ∀ w : PV,
    Wp GG (d + 4) 23 3 [vR (some 46), vR (some (2 * j + 1)), vI (z32 (b : Int)), vI (z32 (e : Int)), vI (z32 (p : Int)), vI (z32 (i : Int)), w] [] (mm I D) (qI (mm I D) (fun x I2 => x = b32 (((sL j).drop b).take (e - b) = (T.drop p).take (e - b)) ∧ I2 = I)) := by
  obtain ⟨-, -, -, -, -, f6, -⟩ := strF j hj
  have h160 := ht.2.1
  intro g
  induction g with
  | zero =>
    intro i hi hb hq w
    obtain rfl : i = e := by omega
    refine s_Tape_isSame_3 _ _ _ _ _ _ ?_
    rw [brP_t (by rw [z32_le] <;> omega)]
    exact qI_i ⟨(if_pos hq).symm, rfl⟩
  | succ g ih =>
    intro i hi hb hq w
    refine s_Tape_isSame_3 _ _ _ _ _ _ ?_
    have e1 : z32 (p : Int) + z32 (i : Int) - z32 (b : Int) = z32 ((p + (i - b) : Nat) : Int) := by
      rw [z32_add, z32_sub]
      congr 1
      omega
    have hk : i < (sL j).length := by omega
    rw [brP_f (by rw [z32_le] <;> omega), e1, brP_f (by show ¬ _ < z32 0; rw [z32_lt] <;> omega), brP_f (by show ¬ z32 160 ≤ _; rw [z32_le] <;> omega), tsP_iff]
    refine ⟨by show 0 ≤ _ ∧ _; rw [z32_toInt (by omega) (by omega)]; omega, ?_⟩
    rw [onR_some, tsP_iff]
    refine ⟨by rw [kd_s (by omega)]; exact (strF j hj).1, ?_⟩
    rw [e_chat hI hj hk, ix_n (by omega), ht.2.2.1 _ (by omega)]
    have es : ((sL j).drop b).take (i + 1 - b) = ((sL j).drop b).take (i - b) ++ [(sL j).getD i 0] := by
      rw [show i + 1 - b = (i - b) + 1 by omega, List.take_add, List.drop_drop, show b + (i - b) = i by omega, List.drop_eq_getElem_cons hk, List.getD_eq_getElem?_getD, List.getElem?_eq_getElem hk]
      rfl
    have et : (T.drop p).take (i + 1 - b) = (T.drop p).take (i - b) ++ [T.getD (p + (i - b)) 0] := by
      have hk2 : p + (i - b) < T.length := by omega
      rw [show i + 1 - b = (i - b) + 1 by omega, List.take_add, List.drop_drop, List.drop_eq_getElem_cons hk2, List.getD_eq_getElem?_getD, List.getElem?_eq_getElem hk2]
      rfl
    refine brP_i (fun q => ?_) (fun q => ?_)
    · have e3 : z32 (i : Int) + 1 = z32 ((i + 1 : Nat) : Int) := by
        show z32 _ + z32 1 = _
        rw [z32_add]
        rfl
      rw [e3]
      refine ih (i + 1) (by omega) (by omega) ?_ _
      rw [es, et, hq, q]
    · refine qI_i ⟨(if_neg (fun z => q ?_)).symm, rfl⟩
      have z2 := congrArg (fun l : Tx => l.take (i + 1 - b)) z
      simp only [List.take_take] at z2
      rw [show min (i + 1 - b) (e - b) = i + 1 - b by omega, es, et, hq] at z2
      exact (List.cons.inj (List.append_cancel_left z2)).1.symm
theorem e_isSame {d : Nat} {I : IM} {D : DY} {K : Int32 → IM → Prop} {T : Tx} {j : Nat} (hI : SOK I) (hj : j < 22) (ht : TP I T) {b e p : Nat} (hbe : b ≤ e) (he : e ≤ (sL j).length) (hp : p + (e - b) ≤ T.length) :
    CI (d + 4) 23 [vR (some 46), vR (some (2 * j + 1)), vI (z32 (b : Int)), vI (z32 (e : Int)), vI (z32 (p : Int))] (mm I D) K ↔ K (b32 (((sL j).drop b).take (e - b) = (T.drop p).take (e - b))) I :=
  CI_iff (s_Tape_isSame _ _ _ _ (same_loop hI hj ht he hp (e - b) b (by omega) (Nat.le_refl _) (by rw [Nat.sub_self]; rfl) vT))
/-- a text's words -/
def spW : Tx → List Tx
  | [] => [[]]
  | c :: cs => if c = 32 then [] :: spW cs else (match spW cs with
    | w :: ws => (c :: w) :: ws
    | [] => [[c]])
theorem spW_ne : ∀ t, ∃ w ws, spW t = w :: ws
  | [] => ⟨[], [], rfl⟩
  | c :: cs => by
    obtain ⟨w, ws, h⟩ := spW_ne cs
    unfold spW
    by_cases q : c = 32
    · exact ⟨[], spW cs, if_pos q⟩
    · rw [if_neg q, h]
      exact ⟨c :: w, ws, rfl⟩
theorem spW_app : ∀ (seg t : Tx), (∀ x ∈ seg, x ≠ 32) → ∀ w ws, spW t = w :: ws → spW (seg ++ t) = (seg ++ w) :: ws
  | [], _, _, _, _, h => h
  | c :: seg, t, hs, w, ws, h => by
    have ih := spW_app seg t (fun x hx => hs x (List.mem_cons_of_mem _ hx)) w ws h
    show (if c = 32 then [] :: spW (seg ++ t) else (match spW (seg ++ t) with
      | w :: ws => (c :: w) :: ws
      | [] => [[c]])) = _
    rw [if_neg (hs c List.mem_cons_self), ih]
    rfl
/-- where the word stands among some -/
def fdW (ws : List Tx) (w : Tx) : Option Nat := ws.findIdx? (fun q => decide (q = w))
theorem fdW_cons (a : Tx) (ws : List Tx) (w : Tx) : fdW (a :: ws) w = if a = w then some 0 else (fdW ws w).map (· + 1) := by
  unfold fdW
  rw [List.findIdx?_cons]
  by_cases q : a = w
  · rw [if_pos q, decide_eq_true q]
    rfl
  · rw [if_neg q, decide_eq_false q]
    rfl
theorem wdR_take {T : Tx} {r : PS} (h : okC2 T r) : wdR r = (T.drop (plC T r).toNat).take (wdR r).length ∧ (plC T r).toNat + (wdR r).length ≤ T.length ∧ 0 ≤ plC T r := by
  cases r with
  | inl s =>
    have hl := wdOf_len s
    have hs : s.length ≤ T.length := h.1
    have e : (plC T (.inl s)).toNat = T.length - s.length := by simp only [plC]; omega
    refine ⟨?_, ?_, by simp only [plC]; omega⟩
    · rw [e, ← h.2]
      exact List.prefix_iff_eq_take.mp (List.takeWhile_prefix _)
    · rw [e]
      show _ + (wdOf s).length ≤ _
      omega
  | inr m =>
    refine ⟨?_, ?_, by simp only [plC]; omega⟩
    · rfl
    · simp only [plC, wdR, List.length_nil]
      omega
theorem word_cmp {d : Nat} {I : IM} {D : DY} {T : Tx} {r : PS} {j : Nat} (hI : SOK I) (hj : j < 22) (h : PC I T r) {b i : Nat} (hbi : b ≤ i) (hi : i ≤ (sL j).length) {A : Prop} {A2 Y2 : IM → Prop} (hA : ((sL j).drop b).take (i - b) ≠ wdR r → A ∧ A2 I) (hY : ((sL j).drop b).take (i - b) = wdR r → Y2 I) :
    brP (¬ z32 (i : Int) - z32 (b : Int) = z32 (plC T r + (wdR r).length) - z32 (plC T r)) A (CI (d + 4) 23 [vR (some 46), vR (some (2 * j + 1)), vI (z32 (b : Int)), vI (z32 (i : Int)), vI (z32 (plC T r))] (mm I D) (fun x4 I4 => brP (x4 = 0) (A2 I4) (Y2 I4))) := by
  obtain ⟨-, -, -, -, -, f6, -⟩ := strF j hj
  obtain ⟨w1, w2, w3⟩ := wdR_take h.2.1
  have h160 := h.1.2.1
  have hl : (((sL j).drop b).take (i - b)).length = i - b := by rw [List.length_take, List.length_drop]; omega
  have e1 : (z32 (i : Int) - z32 (b : Int) = z32 (plC T r + (wdR r).length) - z32 (plC T r)) ↔ i - b = (wdR r).length := by
    rw [z32_sub, z32_sub, z32_inj] <;> omega
  refine brP_i (fun q => (hA (fun z => q ?_)).1) (fun q => ?_)
  · rw [e1, ← hl, z]
  · have q := e1.mp (Classical.not_not.mp q)
    have e2 : plC T r = ((plC T r).toNat : Int) := by omega
    rw [e2, e_isSame hI hj h.1 hbi hi (by omega)]
    have e3 : (((sL j).drop b).take (i - b) = (T.drop (plC T r).toNat).take (i - b)) ↔ (((sL j).drop b).take (i - b) = wdR r) := by
      rw [q, ← w1]
    refine brP_i (fun z => (hA (fun z2 => (b32_0.mp z) (e3.mpr z2))).2) (fun z => hY (e3.mp (Classical.not_not.mp (fun z2 => z (b32_0.mpr z2)))))
theorem word_loop {d : Nat} {I : IM} {D : DY} {K : Int32 → IM → Prop} {T : Tx} {r : PS} {j : Nat} (hI : SOK I) (hj : j < 22) (h : PC I T r) :
    ∀ (g i : Nat), i + g = (sL j).length → ∀ b c : Nat, b ≤ i → (∀ x ∈ ((sL j).drop b).take (i - b), x ≠ 32) →
    (∀ q, fdW (spW ((sL j).drop b)) (wdR r) = some q → K (z32 ((c + q : Nat) : Int)) (up2 I 46 5 (z32 (plC T r + (wdR r).length)))) →
    (fdW (spW ((sL j).drop b)) (wdR r) = none → ∀ I2, PFr I I2 → PC I2 T (flR (lnR r) r) → K (-1) I2) →
    Wp GG (d + 5) 18 19 [vR (some 46), vR (some (2 * j + 1)), vI (z32 (plC T r)), vI (z32 (plC T r + (wdR r).length)), vI (z32 (b : Int)), vI (z32 (c : Int)), vI (z32 (i : Int))] [] (mm I D) (qI (mm I D) K) := by
  obtain ⟨f1, -, -, -, -, f6, -⟩ := strF j hj
  have hkd : pKd (mm I D) (2 * j + 1) = 13 := by rw [kd_s (by omega)]; exact f1
  have hz1 : ∀ n : Nat, z32 (n : Int) + 1 = z32 ((n + 1 : Nat) : Int) := fun n => by
    show z32 _ + z32 1 = _
    rw [z32_add]
    rfl
  intro g
  induction g with
  | zero =>
    intro i hi b c hb hns hs hn
    obtain rfl : i = (sL j).length := by omega
    have hseg : (sL j).drop b = ((sL j).drop b).take ((sL j).length - b) := (List.take_of_length_le (by rw [List.length_drop]; omega)).symm
    have hsp : spW ((sL j).drop b) = [((sL j).drop b).take ((sL j).length - b)] := by
      have := spW_app (((sL j).drop b).take ((sL j).length - b)) [] hns [] [] rfl
      rw [List.append_nil, ← hseg] at this
      rw [← hseg]
      exact this
    rw [hsp] at hs hn
    refine s_Tape_word_19 _ _ _ _ _ _ ?_
    rw [onR_some, tsP_iff]
    refine ⟨hkd, ?_⟩
    rw [e_slen hI hj, brP_f (by rw [z32_lt] <;> omega), onR_some, tsP_iff]
    refine ⟨hkd, ?_⟩
    rw [e_slen hI hj, brP_t rfl]
    have hend : ((sL j).drop b).take ((sL j).length - b) ≠ wdR r → Wp GG (d + 5) 18 19 [vR (some 46), vR (some (2 * j + 1)), vI (z32 (plC T r)), vI (z32 (plC T r + (wdR r).length)), vI (z32 ((sL j).length : Int) + 1), vI (z32 (c : Int) + 1), vI (z32 ((sL j).length : Int) + 1)] [] (mm I D) (qI (mm I D) K) := fun z => by
      refine s_Tape_word_19 _ _ _ _ _ _ ?_
      rw [onR_some, tsP_iff]
      refine ⟨hkd, ?_⟩
      rw [e_slen hI hj, brP_t (by rw [hz1, z32_lt] <;> omega)]
      refine c_fail h (m := lnR r) (fun s hs => ?_) (fun I2 hf hP => qI_i (hn ?_ I2 hf hP))
      · subst hs
        exact ⟨rfl, h.2.1.1⟩
      · rw [fdW_cons, if_neg z]
        rfl
    refine word_cmp (A2 := fun I4 => Wp GG (d + 5) 18 19 [vR (some 46), vR (some (2 * j + 1)), vI (z32 (plC T r)), vI (z32 (plC T r + (wdR r).length)), vI (z32 ((sL j).length : Int) + 1), vI (z32 (c : Int) + 1), vI (z32 ((sL j).length : Int) + 1)] [] (mm I4 D) (qI (mm I D) K)) (Y2 := fun I4 => qI (mm I D) K (some (vI (z32 (c : Int)))) (mm (up2 I4 46 5 (z32 (plC T r + (wdR r).length))) D)) hI hj h hb (Nat.le_refl _) (fun z => ⟨hend z, hend z⟩) (fun z => qI_i ?_)
    have := hs 0 (by rw [fdW_cons, if_pos z])
    exact this
  | succ g ih =>
    intro i hi b c hb hns hs hn
    have hk : i < (sL j).length := by omega
    have hseg : (sL j).drop b = ((sL j).drop b).take (i - b) ++ (sL j).drop i := by
      have := (List.take_append_drop (i - b) ((sL j).drop b)).symm
      rw [List.drop_drop, show b + (i - b) = i by omega] at this
      exact this
    have hdi : (sL j).drop i = (sL j).getD i 0 :: (sL j).drop (i + 1) := by
      rw [List.drop_eq_getElem_cons hk, List.getD_eq_getElem?_getD, List.getElem?_eq_getElem hk]
      rfl
    refine s_Tape_word_19 _ _ _ _ _ _ ?_
    rw [onR_some, tsP_iff]
    refine ⟨hkd, ?_⟩
    rw [e_slen hI hj, brP_f (by rw [z32_lt] <;> omega), onR_some, tsP_iff]
    refine ⟨hkd, ?_⟩
    rw [e_slen hI hj, brP_f (by rw [z32_inj] <;> omega), onR_some, tsP_iff]
    refine ⟨hkd, ?_⟩
    rw [e_chat hI hj hk]
    refine brP_i (fun q => ?_) (fun q => ?_)
    · rw [hz1]
      refine ih (i + 1) (by omega) b c (by omega) (fun x hx => ?_) hs hn
      rw [show i + 1 - b = (i - b) + 1 by omega, List.take_add, List.drop_drop, show b + (i - b) = i by omega, hdi] at hx
      rcases List.mem_append.mp hx with z | z
      · exact hns x z
      · have : x = (sL j).getD i 0 := by simpa using z
        rw [this]
        exact q
    · have q := Classical.not_not.mp q
      have hsp : spW ((sL j).drop b) = ((sL j).drop b).take (i - b) :: spW ((sL j).drop (i + 1)) := by
        have := spW_app (((sL j).drop b).take (i - b)) ((sL j).drop i) hns [] (spW ((sL j).drop (i + 1))) (by
          rw [hdi, q]
          rfl)
        rw [List.append_nil, ← hseg] at this
        exact this
      rw [hsp] at hs hn
      have hgo : ((sL j).drop b).take (i - b) ≠ wdR r → Wp GG (d + 5) 18 19 [vR (some 46), vR (some (2 * j + 1)), vI (z32 (plC T r)), vI (z32 (plC T r + (wdR r).length)), vI (z32 (i : Int) + 1), vI (z32 (c : Int) + 1), vI (z32 (i : Int) + 1)] [] (mm I D) (qI (mm I D) K) := fun z => by
        rw [hz1, hz1]
        refine ih (i + 1) (by omega) (i + 1) (c + 1) (Nat.le_refl _) (fun x hx => by rw [Nat.sub_self] at hx; cases hx) (fun k hk2 => ?_) (fun hk2 => ?_)
        · have := hs (k + 1) (by rw [fdW_cons, if_neg z, hk2]; rfl)
          rw [show c + 1 + k = c + (k + 1) by omega]
          exact this
        · exact hn (by rw [fdW_cons, if_neg z, hk2]; rfl)
      refine word_cmp (A2 := fun I4 => Wp GG (d + 5) 18 19 [vR (some 46), vR (some (2 * j + 1)), vI (z32 (plC T r)), vI (z32 (plC T r + (wdR r).length)), vI (z32 (i : Int) + 1), vI (z32 (c : Int) + 1), vI (z32 (i : Int) + 1)] [] (mm I4 D) (qI (mm I D) K)) (Y2 := fun I4 => qI (mm I D) K (some (vI (z32 (c : Int)))) (mm (up2 I4 46 5 (z32 (plC T r + (wdR r).length))) D)) hI hj h hb (by omega) (fun z => ⟨hgo z, hgo z⟩) (fun z => qI_i ?_)
      have := hs 0 (by rw [fdW_cons, if_pos z])
      exact this
theorem c_word {d : Nat} {I : IM} {D : DY} {K : Int32 → IM → Prop} {T : Tx} {r : PS} {j : Nat} {ws : List Tx} (hI : SOK I) (hj : j < 22) (hw : spW (sL j) = ws) (hne : ∀ w ∈ ws, w ≠ []) (h : PC I T r)
    (k : ∀ x I2, PFr I I2 → PC I2 T (aft (sq r (wdP ws))) → (∀ q s, sq r (wdP ws) = .inl (q, s) → x = z32 (q : Int)) → ((∀ q s, sq r (wdP ws) ≠ .inl (q, s)) → x = -1) → K x I2) : CI (d + 6) 18 [vR (some 46), vR (some (2 * j + 1))] (mm I D) K := by
  refine s_Tape_word _ ?_
  rw [e_wordEnd h, h.2.2.1]
  have hfd : ∀ s, wdP ws s = (match fdW ws (wdOf s) with
    | some q => .inl (q, s.drop (wdOf s).length)
    | none => .inr s.length) := fun _ => rfl
  refine word_loop hI hj h (sL j).length 0 (by omega) 0 0 (Nat.le_refl _) (fun x hx => by cases hx) (fun q hq => ?_) (fun hq I2 hf hP => ?_)
  · rw [List.drop_zero, hw] at hq
    cases r with
    | inr m =>
      have := List.findIdx?_eq_some_iff_getElem.mp hq
      obtain ⟨h1, h2, -⟩ := this
      exact absurd (of_decide_eq_true h2) (hne _ (List.getElem_mem h1))
    | inl s =>
      have e : sq (.inl s) (wdP ws) = .inl (q, s.drop (wdOf s).length) := by
        show wdP ws s = _
        rw [hfd]
        have : fdW ws (wdOf s) = some q := hq
        rw [this]
      have hl := wdOf_len s
      have hs : s.length ≤ T.length := h.2.1.1
      refine k _ _ (PFr.up (by omega)) ?_ (fun q2 s2 e2 => ?_) (fun e2 => absurd e (e2 _ _))
      · rw [e]
        refine PC.set (r := .inl (s.drop (wdOf s).length)) h.1 (h.2.1.drop _) (PFr.up (by omega)) ?_ ?_
        · rw [up2_eq]
          congr 1
          simp only [plC, wdR, List.length_drop]
          omega
        · rw [up2_nj (by omega)]
          exact h.2.2.2
      · rw [e] at e2
        cases e2
        rw [Nat.zero_add]
  · rw [List.drop_zero, hw] at hq
    have e : aft (sq r (wdP ws)) = flR (lnR r) r ∧ ∀ q s, sq r (wdP ws) ≠ .inl (q, s) := by
      cases r with
      | inr m => exact ⟨rfl, fun q s e => by cases e⟩
      | inl s =>
        have : fdW ws (wdOf s) = none := hq
        have e : wdP ws s = .inr s.length := by rw [hfd, this]
        refine ⟨?_, fun q s2 e2 => ?_⟩
        · show aft (wdP ws s) = _
          rw [e]
          rfl
        · have e3 : wdP ws s = .inl (q, s2) := e2
          rw [e] at e3
          cases e3
    refine k _ _ hf ?_ (fun q s e2 => absurd e2 (e.2 q s)) (fun _ => rfl)
    rw [e.1]
    exact hP
