theorem wdP_lt {ws : List Tx} {s : Tx} {q : Nat} {s2 : Tx} (h : wdP ws s = .inl (q, s2)) : q < ws.length := by
  unfold wdP at h
  split at h
  · rename_i k hk
    cases h
    exact (List.findIdx?_eq_some_iff_getElem.mp hk).1
  · cases h
theorem sq_inl {α : Type} {s : Tx} {X : Tx → PR α} : sq (.inl s) X = X s := rfl
theorem sq_inr {α : Type} {m : Nat} {X : Tx → PR α} : sq (.inr m) X = .inr m := rfl
theorem w_kind : spW (sL 14) = kindW := by decide +kernel
theorem w_kina : spW (sL 13) = kinaW := by decide +kernel
theorem w_verb : spW (sL 3) = verbW := by decide +kernel
theorem w_fold : spW (sL 11) = foldW := by decide +kernel
theorem w_key : spW (sL 16) = keyW := by decide +kernel
theorem w_to : spW (sL 7) = [[116, 111]] := by decide +kernel
theorem w_of : spW (sL 12) = [[111, 102]] := by decide +kernel
theorem w_by : spW (sL 15) = [[98, 121]] := by decide +kernel
theorem w_if : spW (sL 17) = [[105, 102]] := by decide +kernel
theorem w_on : spW (sL 18) = [[111, 110]] := by decide +kernel
theorem w_ifdo : spW (sL 19) = [[105, 102], [100, 111]] := by decide +kernel
theorem w_do : spW (sL 20) = [[100, 111]] := by decide +kernel
def kdE (m : Int32) (r : PS) : PR Int32 := match r with
  | .inl s => .inl (m, s)
  | .inr q => .inr q
theorem kinds_loop {d : Nat} {I0 : IM} {D : DY} {K : Int32 → IM → Prop} {T : Tx} (hS : SOK I0) : ∀ (g i : Nat), i + g = 160 → ∀ (I : IM), PFr I0 I → ∀ (l1 m : Int32) (r : PS), PC I T r →
    (∀ x I2, PFr I0 I2 → PC I2 T (aft (sq r (kdL g m))) → (∀ v s, sq r (kdL g m) = .inl (v, s) → x = v) → K x I2) →
    Wp GG (d + 7) 112 28 [vR (some 46), vI l1, vI m, vI (z32 (i : Int))] [] (mm I D) (qI (mm I0 D) K) := by
  intro g
  have hq0 : ∀ {I : IM} {x : Int32} {I2 : IM}, K x I2 → qI (mm I0 D) K (some (vI x)) (mm I2 D) := fun h => ⟨_, _, rfl, rfl, h⟩
  induction g with
  | zero =>
    intro i hi I hI l1 m r h k
    refine s_Tape_kinds_28 _ _ _ ?_
    rw [brP_t (by show z32 160 ≤ _; rw [z32_le] <;> omega)]
    refine hq0 (I := I) (k _ _ hI ?_ (fun v s e => ?_))
    · cases r <;> exact h
    · cases r <;> cases e
      rfl
  | succ g ih =>
    intro i hi I hI l1 m r h k
    refine s_Tape_kinds_28 _ _ _ ?_
    rw [brP_f (by show ¬ z32 160 ≤ _; rw [z32_le] <;> omega), e_peek h]
    have e3 : z32 (i : Int) + 1 = z32 ((i + 1 : Nat) : Int) := by
      show z32 _ + z32 1 = _
      rw [z32_add]
      rfl
    refine brP_i (fun q => ?_) (fun q => ?_)
    · obtain ⟨t, rfl⟩ := pk_cons q (by decide)
      have hn := h.next
      have hI1 : PFr I0 (up2 I 46 5 (I 46 5 + 1)) := hI.tr (PFr.up (by omega))
      refine c_word (d := d) (j := 14) (hS.fr hI1) (by omega) w_kind (by decide +kernel) hn (fun x I2 hf hP hv he => ?_)
      have e0 : sq (.inl (43 :: t)) (kdL (g + 1) m) = bnd (wdP kindW t) (fun k s => kdL g (m ||| ((1 : Int32) <<< z32 (k : Int))) s) := by
        show (if (43 : Int32) = 43 then bnd (wdP kindW t) (fun k s => kdL g (m ||| ((1 : Int32) <<< z32 (k : Int))) s) else .inl (m, 43 :: t)) = _
        rw [if_pos rfl]
      rw [e0] at k
      rw [e3]
      rw [sq_inl] at hP hv he
      cases hw : wdP kindW t with
      | inl qs =>
        obtain ⟨qk, s⟩ := qs
        rw [hw] at hP
        obtain rfl := hv qk s hw
        have hlt : qk < 9 := wdP_lt hw
        refine brP_i (fun _ => ?_) (fun z => absurd (by rw [z32_m1, z32_inj] <;> omega) z)
        refine ih (i + 1) (by omega) I2 (hI1.tr hf) _ _ (.inl s) hP ?_
        rw [hw] at k
        exact k
      | inr mm0 =>
        rw [hw] at hP
        obtain rfl := he (fun q s e => by rw [hw] at e; cases e)
        refine brP_i (fun z => absurd rfl z) (fun _ => ?_)
        refine ih (i + 1) (by omega) I2 (hI1.tr hf) _ _ (.inr mm0) hP ?_
        rw [hw] at k
        exact fun x I2 a b c => k x I2 a b (fun v s e => by cases e)
    · have e0 : sq r (kdL (g + 1) m) = kdE m r := by
        rcases r with (_ | ⟨x, t⟩) | m0
        · rfl
        · have q2 : ¬ x = 43 := q
          show (if x = 43 then bnd (wdP kindW t) (fun k s => kdL g (m ||| ((1 : Int32) <<< z32 (k : Int))) s) else .inl (m, x :: t)) = _
          rw [if_neg q2]
          rfl
        · rfl
      refine hq0 (I := I) (k _ _ hI ?_ (fun v s e => ?_))
      · rw [e0]
        cases r <;> exact h
      · rw [e0] at e
        cases r <;> cases e
        rfl
theorem c_kinds {d : Nat} {I : IM} {D : DY} {K : Int32 → IM → Prop} {T : Tx} {r : PS} (hS : SOK I) (h : PC I T r)
    (k : ∀ x I2, PFr I I2 → PC I2 T (aft (sq r kdP)) → (∀ v s, sq r kdP = .inl (v, s) → x = v) → K x I2) : CI (d + 7) 112 [vR (some 46)] (mm I D) K := by
  refine s_Tape_kinds ?_
  refine c_word (d := d) (j := 13) hS (by omega) w_kina (by decide +kernel) h (fun x I2 hf hP hv he => ?_)
  have hq0 : ∀ {x : Int32} {I2 : IM}, K x I2 → qI (mm I D) K (some (vI x)) (mm I2 D) := fun h => ⟨_, _, rfl, rfl, h⟩
  have e0 : sq r kdP = bnd (sq r (wdP kinaW)) (fun k s => if k = 9 then .inl (511, s) else kdL 160 ((1 : Int32) <<< z32 (k : Int)) s) := by cases r <;> rfl
  cases hw : sq r (wdP kinaW) with
  | inr m =>
    rw [hw] at hP e0
    obtain rfl := he (fun q s e => by rw [hw] at e; cases e)
    rw [brP_t rfl]
    refine hq0 (k _ _ hf ?_ (fun v s e => ?_))
    · rw [e0]
      exact hP
    · rw [e0] at e
      cases e
  | inl qs =>
    obtain ⟨q, s⟩ := qs
    rw [hw] at hP e0
    obtain rfl := hv q s hw
    have hlt : q < 10 := by
      cases r with
      | inl s0 => exact wdP_lt (ws := kinaW) hw
      | inr m => cases hw
    rw [brP_f (by rw [z32_m1, z32_inj] <;> omega)]
    refine brP_i (fun z => ?_) (fun z => ?_)
    · have z2 : q ≠ 9 := fun e => z (by rw [e]; rfl)
      have e1 : sq r kdP = kdL 160 ((1 : Int32) <<< z32 (q : Int)) s := by
        rw [e0]
        show (if q = 9 then _ else _) = _
        rw [if_neg z2]
      refine kinds_loop (d := d) hS 160 0 rfl I2 hf _ _ (.inl s) hP (fun x I3 h1 h2 h3 => k x I3 h1 ?_ ?_)
      · rw [e1]
        exact h2
      · rw [e1]
        exact h3
    · have z := Classical.not_not.mp z
      have z2 : q = 9 := by
        have z : z32 (q : Int) = z32 9 := z
        rw [z32_inj] at z <;> omega
      have e1 : sq r kdP = .inl (511, s) := by
        rw [e0]
        show (if q = 9 then _ else _) = _
        rw [if_pos z2]
      refine hq0 (k _ _ hf ?_ (fun v s2 e => ?_))
      · rw [e1]
        exact hP
      · rw [e1] at e
        cases e
        rfl
/-! a sign among a text's -/
theorem byt8 : ∀ n : Nat, n < 256 → ((z32 (n : Int)).toInt8.toInt32 = if n < 128 then z32 (n : Int) else z32 ((n : Int) - 256)) ∧ (Int32.toUInt32 (z32 (n : Int)) % 65536).toInt32 = z32 (n : Int) := by decide +kernel
def ixV (o : Option Nat) : Int32 := match o with
  | some q => z32 (q : Int)
  | none => -1
theorem ixc_loop {d : Nat} {I : IM} {D : DY} {j n : Nat} (hI : SOK I) (hj : j < 22) (hn : n < 256) : ∀ (g i : Nat), i + g = (sL j).length → ∀ (c0 : Int32),
    Wp GG d 41 7 [vR (some (2 * j + 2)), vI (z32 (n : Int)), vI c0, vI (z32 ((sL j).length : Int)), vI ((z32 (n : Int)).toInt8.toInt32), vI (z32 (i : Int))] [] (mm I D) (qI (mm I D) (fun x I2 => x = ixV ((ixS ((sL j).drop i) (z32 (n : Int))).map (· + i)) ∧ I2 = I)) := by
  obtain ⟨f1, f2, f3, f4, f5, f6, f7⟩ := strF j hj
  intro g
  induction g with
  | zero =>
    intro i hi c0
    obtain rfl : i = (sL j).length := by omega
    refine s_StringLatin1_indexOfChar_7 _ _ _ _ _ _ ?_
    rw [brP_t (by rw [z32_le] <;> omega)]
    refine qI_i ⟨?_, rfl⟩
    rw [List.drop_length]
    rfl
  | succ g ih =>
    intro i hi c0
    have hk : i < (sL j).length := by omega
    have hm : (sL j).getD i 0 ∈ sL j := by
      rw [List.getD_eq_getElem?_getD, List.getElem?_eq_getElem hk]
      exact List.getElem_mem hk
    obtain ⟨-, -, g3, g4⟩ := strG j hj _ hm
    have hdi : (sL j).drop i = (sL j).getD i 0 :: (sL j).drop (i + 1) := by
      rw [List.drop_eq_getElem_cons hk, List.getD_eq_getElem?_getD, List.getElem?_eq_getElem hk]
      rfl
    have heq : ((sL j).getD i 0 = (z32 (n : Int)).toInt8.toInt32) ↔ (sL j).getD i 0 = z32 (n : Int) := by
      rw [(byt8 n hn).1]
      by_cases h128 : n < 128
      · rw [if_pos h128]
      · rw [if_neg h128]
        constructor
        · intro q
          rw [q, z32_toInt (by omega) (by omega)] at g3
          omega
        · intro q
          rw [q, z32_toInt (by omega) (by omega)] at g4
          omega
    refine s_StringLatin1_indexOfChar_7 _ _ _ _ _ _ ?_
    rw [brP_f (by rw [z32_le] <;> omega), onR_some, tsP_iff]
    refine ⟨by rw [kd_s (by omega)]; exact f4, ?_⟩
    rw [tsP_iff, ln_s (by omega) (by omega), f5]
    refine ⟨by show 0 ≤ _ ∧ _; rw [z32_toInt (by omega) (by omega)]; omega, ?_⟩
    rw [ix_n (by omega), (hI j hj).2 i hk]
    refine brP_i (fun q => ?_) (fun q => ?_)
    · have e3 : z32 (i : Int) + 1 = z32 ((i + 1 : Nat) : Int) := by
        show z32 _ + z32 1 = _
        rw [z32_add]
        rfl
      rw [e3]
      have hne : ¬ (sL j).getD i 0 = z32 (n : Int) := fun z => q (heq.mpr z)
      have := ih (i + 1) (by omega) c0
      have e4 : (ixS ((sL j).drop i) (z32 (n : Int))).map (· + i) = (ixS ((sL j).drop (i + 1)) (z32 (n : Int))).map (· + (i + 1)) := by
        rw [hdi]
        unfold ixS
        rw [List.findIdx?_cons, decide_eq_false hne]
        show Option.map _ (Option.map _ _) = _
        rw [Option.map_map]
        congr 1
        funext z
        show z + 1 + i = z + (i + 1)
        omega
      rw [e4]
      exact this
    · have q := heq.mp (Classical.not_not.mp q)
      refine qI_i ⟨?_, rfl⟩
      rw [hdi]
      unfold ixS
      rw [List.findIdx?_cons, decide_eq_true q]
      show _ = z32 ((0 + i : Nat) : Int)
      rw [Nat.zero_add]
theorem e_max {d : Nat} {I : IM} {D : DY} {K : Int32 → IM → Prop} (x y : Int32) : CI d 39 [vI x, vI y] (mm I D) K ↔ K (if x < y then y else x) I := by
  refine CI_iff (s_Math_max _ _ ?_)
  refine brP_i (fun h => qI_i ⟨(if_pos h).symm, rfl⟩) (fun h => qI_i ⟨(if_neg h).symm, rfl⟩)
theorem e_min {d : Nat} {I : IM} {D : DY} {K : Int32 → IM → Prop} (x y : Int32) : CI d 40 [vI x, vI y] (mm I D) K ↔ K (if y < x then y else x) I := by
  refine CI_iff (s_Math_min _ _ ?_)
  refine brP_i (fun h => qI_i ⟨(if_pos h).symm, rfl⟩) (fun h => qI_i ⟨(if_neg h).symm, rfl⟩)
theorem e_indexOf {d : Nat} {I : IM} {D : DY} {K : Int32 → IM → Prop} {j n : Nat} (hI : SOK I) (hj : j < 22) (hlen : 0 < (sL j).length) (hn : n < 256) : CI (d + 3) 35 [vR (some (2 * j + 1)), vI (z32 (n : Int))] (mm I D) K ↔ K (ixV (ixS (sL j) (z32 (n : Int)))) I := by
  obtain ⟨f1, f2, f3, f4, f5, f6, f7⟩ := strF j hj
  have hkd : pKd (mm I D) (2 * j + 1) = 13 := by rw [kd_s (by omega)]; exact f1
  have h3 : ∀ {K : Int32 → IM → Prop}, CI (d + 1) 37 [vR (some (2 * j + 2)), vI (z32 (n : Int)), vI 0, vI (z32 ((sL j).length : Int))] (mm I D) K ↔ K (ixV (ixS (sL j) (z32 (n : Int)))) I := by
    intro K
    refine CI_iff (s_StringLatin1_indexOf _ _ _ _ ?_)
    have h38 : CI d 38 [vI (z32 (n : Int))] (mm I D) (fun x I2 => x = 1 ∧ I2 = I) := by
      refine s_StringLatin1_canEncode _ ?_
      rw [brP_f (by show ¬ _ < z32 0; rw [z32_lt] <;> omega), brP_f (by show ¬ z32 255 < _; rw [z32_lt] <;> omega)]
      exact qI_i ⟨rfl, rfl⟩
    rw [CI_iff h38, brP_t (by decide), e_max, onR_some, tsP_iff]
    refine ⟨by rw [kd_s (by omega), f4]; decide, ?_⟩
    rw [e_min, ln_s (by omega) (by omega), f5]
    have e1 : (if Int32.ofNat (sL j).length < z32 ((sL j).length : Int) then Int32.ofNat (sL j).length else z32 ((sL j).length : Int)) = z32 ((sL j).length : Int) := by
      show (if z32 ((sL j).length : Int) < z32 ((sL j).length : Int) then _ else _) = _
      rw [if_neg (by rw [z32_lt] <;> omega)]
    have e2 : (if (0 : Int32) < 0 then (0 : Int32) else 0) = z32 0 := rfl
    rw [e1, e2, brP_t (by rw [z32_lt] <;> omega)]
    have hl := ixc_loop (d := d) (D := D) hI hj hn (sL j).length 0 (by omega) (z32 0)
    have h41 : CI d 41 [vR (some (2 * j + 2)), vI (z32 (n : Int)), vI (z32 0), vI (z32 ((sL j).length : Int))] (mm I D) (fun x I2 => x = ixV ((ixS ((sL j).drop 0) (z32 (n : Int))).map (· + 0)) ∧ I2 = I) := s_StringLatin1_indexOfChar _ _ _ _ hl
    rw [CI_iff h41]
    refine qI_i ⟨?_, rfl⟩
    rw [List.drop_zero]
    cases ixS (sL j) (z32 (n : Int)) <;> rfl
  refine CI_iff (s_String_indexOf0 _ _ ?_)
  rw [tsP_iff]
  refine ⟨hkd, ?_⟩
  have h36 : CI (d + 2) 36 [vR (some (2 * j + 1)), vI (z32 (n : Int)), vI 0] (mm I D) (fun x I2 => x = ixV (ixS (sL j) (z32 (n : Int))) ∧ I2 = I) := by
    refine s_String_indexOf1 _ _ _ ?_
    rw [tsP_iff]
    refine ⟨hkd, ?_⟩
    rw [e_latin hI hj, brP_f (by decide), tsP_iff]
    refine ⟨hkd, ?_⟩
    rw [tsP_iff]
    refine ⟨hkd, ?_⟩
    rw [e_slen hI hj, rf_s f2, f3, h3]
    exact qI_i ⟨rfl, rfl⟩
  rw [CI_iff h36]
  exact qI_i ⟨rfl, rfl⟩
