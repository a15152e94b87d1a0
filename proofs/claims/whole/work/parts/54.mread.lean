/-! The model's texts: what lies in no state, formulas, kinds, ends. -/
/-- what holds nothing from one call to the next -/
def Sc (q k : Nat) : Prop := (q = 106 ∧ k ≠ 2 ∧ k ≠ 14 ∧ k ≠ 22 ∧ k ≠ 23 ∧ k ≠ 75 ∧ k ≠ 76) ∨ (q = 109 ∧ 17150 ≤ k ∧ k < 19600) ∨ q = 111 ∨ q = 112 ∨ q = 121 ∨ (127 ≤ q ∧ q ≤ 134) ∨ q = 143 ∨ q = 144
def SFr (I I2 : IM) : Prop := ∀ q k, ¬ Sc q k → I2 q k = I q k
def SFt (I I2 : IM) : Prop := ∀ q k, ¬ (Sc q k ∨ (q = 106 ∧ k = 2) ∨ (q = 110 ∧ 70 ≤ k ∧ k < 80)) → I2 q k = I q k
theorem SFr.rf {I : IM} : SFr I I := fun _ _ _ => rfl
theorem SFr.tr {I I2 I3 : IM} (h : SFr I I2) (h2 : SFr I2 I3) : SFr I I3 := fun q k e => (h2 q k e).trans (h q k e)
theorem SFr.t {I I2 : IM} (h : SFr I I2) : SFt I I2 := fun q k e => h q k (fun c => e (Or.inl c))
theorem SFt.tr {I I2 I3 : IM} (h : SFt I I2) (h2 : SFt I2 I3) : SFt I I3 := fun q k e => (h2 q k e).trans (h q k e)
theorem NFr.s {I I2 : IM} (h : NFr I I2) : SFr I I2 := fun q k e => h q k (fun c => e (by unfold Sc; omega))
theorem SFr.up {I : IM} {q k : Nat} {v : Int32} (hq : Sc q k) : SFr I (up2 I q k v) := fun a j h => if_neg (fun e => h (by rw [e.1, e.2]; exact hq))
theorem TPm.sf {I I2 : IM} {T : Tx} (h : TPm I T) (hf : SFr I I2) : TPm I2 T := h.fr (hf _ _ (by unfold Sc; omega)) (fun k => hf _ _ (by unfold Sc; omega))
theorem WRD.sf {I I2 : IM} (h : WRD I) (hf : SFt I I2) : WRD I2 := h.fr (fun k => hf _ _ (by unfold Sc; omega))
theorem MP.mv {I I2 : IM} {T : Tx} {r : PS} (h : MP I T r) (hf : SFr I I2) (h3 : I2 106 3 = I 106 3) (h4 : I2 106 4 = I 106 4) : MP I2 T r := by
  obtain ⟨h1, ⟨a, a1, a2⟩, h2⟩ := h
  refine ⟨h1.sf hf, ⟨a, a1, h3.trans a2⟩, ?_⟩
  rcases r with s | m
  · have h2 : sfx s T ∧ I 106 3 = z32 ((T.length - s.length : Nat) : Int) ∧ I 106 4 = -1 := h2
    exact ⟨h2.1, h3.trans h2.2.1, h4.trans h2.2.2⟩
  · have h2 : m ≤ T.length ∧ I 106 4 = z32 ((T.length - m : Nat) : Int) := h2
    exact ⟨h2.1, h4.trans h2.2⟩
theorem MP.up {I : IM} {T : Tx} {r : PS} {k : Nat} {v : Int32} (h : MP I T r) (hk : k ≠ 2 ∧ k ≠ 3 ∧ k ≠ 4 ∧ k ≠ 14 ∧ k ≠ 22 ∧ k ≠ 23 ∧ k ≠ 75 ∧ k ≠ 76) : MP (up2 I 106 k v) T r := h.mv (SFr.up (by unfold Sc; omega)) (up2_nj (by omega)) (up2_nj (by omega))
/-- what a formula's reading may change -/
def FFr (sl : Nat) (I I2 : IM) : Prop := ∀ q k, ¬ ((q = 106 ∧ (3 ≤ k ∧ k ≤ 5 ∨ 9 ≤ k ∧ k ≤ 11)) ∨ (q = 109 ∧ 245 * sl ≤ k ∧ k < 245 * sl + 245) ∨ (q = 110 ∧ k = sl)) → I2 q k = I q k
theorem FFr.tr {sl : Nat} {I I2 I3 : IM} (h : FFr sl I I2) (h2 : FFr sl I2 I3) : FFr sl I I3 := fun q k e => (h2 q k e).trans (h q k e)
theorem GFr.f {sl : Nat} {I I2 : IM} (h : GFr sl I I2) : FFr sl I I2 := fun q k e => h q k (by omega)
theorem FFr.t {sl : Nat} {I I2 : IM} (h : FFr sl I I2) (h1 : 70 ≤ sl) (h2 : sl < 80) : SFt I I2 := fun q k e => h q k (fun c => e (by unfold Sc; omega))
theorem mz_0 {I : IM} {T : Tx} {r : PS} {sl : Nat} (h : MP I T r) (hsl : sl < 160) (w : Int32) : MZ (up2 (up2 (up2 (up2 I 106 9 (z32 (sl : Int))) 110 sl 0) 106 10 0) 106 11 w) T r sl [] 480 ∧ FFr sl I (up2 (up2 (up2 (up2 I 106 9 (z32 (sl : Int))) 110 sl 0) 106 10 0) 106 11 w) := by
  have e : ∀ k, k ≠ 9 → k ≠ 10 → k ≠ 11 → up2 (up2 (up2 (up2 I 106 9 (z32 (sl : Int))) 110 sl 0) 106 10 0) 106 11 w 106 k = I 106 k := fun k h1 h2 h3 => by rw [up2_nj h3, up2_nj h2, up2_ne (by omega), up2_nj h1]
  have f : FFr sl I (up2 (up2 (up2 (up2 I 106 9 (z32 (sl : Int))) 110 sl 0) 106 10 0) 106 11 w) := fun q k c => by
    rw [up2_if, if_neg (by omega), up2_if, if_neg (by omega), up2_if, if_neg (by omega), up2_if, if_neg (by omega)]
  obtain ⟨a, a1, a2⟩ := h.2.1
  refine ⟨⟨?_, ⟨?_, hsl, by omega⟩, ⟨a, 0, a1, (e 3 (by omega) (by omega) (by omega)).trans a2, ?_, by omega⟩, fun s hs => ⟨?_, by decide, fun k hk => absurd hk (Nat.not_lt_zero _)⟩⟩, f⟩
  · obtain ⟨h1, _, h2⟩ := h
    refine ⟨h1.fb (e 2 (by omega) (by omega) (by omega)) (fun k => f _ _ (by omega)) (fun s hs => ?_), ⟨a, a1, (e 3 (by omega) (by omega) (by omega)).trans a2⟩, ?_⟩
    · by_cases q : s = sl
      · rw [q, up2_ne (by omega), up2_ne (by omega), up2_eq]
        exact ⟨0, by omega, rfl⟩
      · obtain ⟨n, b1, b2⟩ := h1.2.2.2.2 s hs
        exact ⟨n, b1, (f _ _ (by omega)).trans b2⟩
    rcases r with s | m
    · have h2 : sfx s T ∧ I 106 3 = z32 ((T.length - s.length : Nat) : Int) ∧ I 106 4 = -1 := h2
      exact ⟨h2.1, (e 3 (by omega) (by omega) (by omega)).trans h2.2.1, (e 4 (by omega) (by omega) (by omega)).trans h2.2.2⟩
    · have h2 : m ≤ T.length ∧ I 106 4 = z32 ((T.length - m : Nat) : Int) := h2
      exact ⟨h2.1, (e 4 (by omega) (by omega) (by omega)).trans h2.2⟩
  · rw [up2_nj (by omega), up2_nj (by omega), up2_ne (by omega), up2_eq]
  · rw [up2_ne (by omega), up2_ne (by omega), up2_eq]
    rfl
  · rw [up2_ne (by omega), up2_ne (by omega), up2_eq]
    rfl
theorem m_formula {d : Nat} {I : IM} {D : DY} {K : IM → Prop} {T vs : Tx} {r : PS} {sl : Nat} {w : Int32} (hw : (w = 0 ∧ vs = absV) ∨ (w = 1 ∧ vs = okhV)) (hsl : sl < 160) (h : MP I T r)
    (k : ∀ I2, FFr sl I I2 → MP I2 T (aft (sq r (cP vs 0))) → (∀ c s, sq r (cP vs 0) = .inl (c, s) → FMc I2 sl (encV c)) → K I2) : CV (d + 66) 178 [vR (some 106), vI (z32 (sl : Int)), vI w] (mm I D) K := by
  refine s_M_readFormula _ _ (tsP_i (inB_n hsl (by omega)) (tsP_i (hw.imp (fun a => a.1) (fun a => a.1)) ?_))
  rw [ix_n (by omega)]
  obtain ⟨hX, hf⟩ := mz_0 h hsl w
  refine hm_all vs 28 0 0 (by omega) (by omega) (Nat.le_refl _) (d + 65) _ _ _ T r sl [] 480 (by omega) ?_ (fun s _ => ?_) hX (by omega) (fun I2 f2 X2 o2 => qV_i (k I2 (hf.tr f2.f) X2.1 (fun c s q => ?_)))
  · unfold LTm
    rw [up2_eq]
    exact hw
  · rw [up2_nj (by omega), up2_eq]
    rfl
  · have e1 : sq r (xP vs 28 0 0) = .inl (c, s) := q
    have := X2.2.2.2 s (by rw [e1]; rfl)
    rw [e1] at this
    exact this
def allV : Tx := [97, 108, 108]
theorem fdI_app (w a : Tx) : ∀ l : List Tx, fdI w (l ++ [a]) = match fdI w l with
    | some q => some q
    | none => if a = w then some l.length else none
  | [] => rfl
  | x :: l => by
    show (if x = w then some 0 else (fdI w (l ++ [a])).map (· + 1)) = match (if x = w then some 0 else (fdI w l).map (· + 1)) with
      | some q => some q
      | none => if a = w then some (l.length + 1) else none
    by_cases h : x = w
    · rw [if_pos h, if_pos h]
    · rw [if_neg h, if_neg h, fdI_app w a l]
      cases fdI w l with
      | some q => rfl
      | none =>
        by_cases c : a = w
        · rw [if_pos c, if_pos c]
          rfl
        · rw [if_neg c, if_neg c]
          rfl
theorem wdP_fd (ws : List Tx) (s : Tx) : wdP ws s = match fdI (wdOf s) ws with
    | some q => .inl (q, s.drop (wdOf s).length)
    | none => .inr s.length := by
  unfold wdP
  rw [fdI_eq]
  cases fdI (wdOf s) ws <;> rfl
theorem kina_eq (s : Tx) : wdP kinaW s = if wdOf s = allV then .inl (9, s.drop (wdOf s).length) else wdP kindW s := by
  rw [wdP_fd, wdP_fd, show kinaW = kindW ++ [allV] from rfl, fdI_app]
  by_cases h : wdOf s = allV
  · rw [if_pos h, h, show fdI allV kindW = none by decide]
    rfl
  · rw [if_neg h]
    cases fdI (wdOf s) kindW with
    | some q => rfl
    | none =>
      show (match (if allV = wdOf s then some kindW.length else none) with
        | some q => (.inl (q, s.drop (wdOf s).length) : PR Nat)
        | none => .inr s.length) = _
      rw [if_neg (fun c => h c.symm)]
theorem isnext_end {d : Nat} {I : IM} {D : DY} {Q : Option PV → PM → Prop} {T : Tx} {p1 : Int32} (ht : TPm I T) : ∀ (s : Tx), sfx s T →
    (brP (z32 ((T.length - s.length + (wdOf s).length : Nat) : Int) ≤ (I 106 3)) (Q (some (vI 0)) (mm I D)) (CI d 173 [vR (some 106), vI p1, vI (I 106 3), vI (z32 ((T.length - s.length + (wdOf s).length : Nat) : Int))] (mm I D) (fun x1 I1 => brP (x1 = 0) (Q (some (vI 0)) (mm I1 D)) (Q (some (vI 1)) (mm I1 D))))) →
    Wp GG (d + 1) 236 5 [vR (some 106), vI p1, vI (z32 ((T.length - s.length : Nat) : Int))] [] (mm I D) Q := by
  have h160 := ht.2.1
  intro s
  induction s with
  | nil =>
    intro hs k
    have h0 : ([] : Tx).length = 0 := rfl
    refine s_M_isNext_5 _ _ ?_
    rw [ht.1]
    exact (brP_t (by rw [z32_le] <;> omega)).mpr k
  | cons x t ih =>
    intro hs k
    have hl := hs.1
    rw [List.length_cons] at hl k ⊢
    refine s_M_isNext_5 _ _ ?_
    rw [ht.1]
    refine (brP_f (by rw [z32_le] <;> omega)).mpr (tsP_i (inB_n (by omega) (by omega)) ?_)
    rw [ix_n (by omega), ht.2.2.1 _ (by omega), hs.head, e_in, low_b]
    rw [wdOf_cons] at k
    refine br0 (fun q => ?_) (fun q => ?_)
    · rw [if_pos q, List.length_cons] at k
      rw [z32_s, show T.length - (t.length + 1) + 1 = T.length - t.length by omega]
      refine ih hs.tail ?_
      rw [show T.length - t.length + (wdOf t).length = T.length - (t.length + 1) + ((wdOf t).length + 1) by omega]
      exact k
    · rw [if_neg q] at k
      exact k
theorem e_isNext {d : Nat} {I : IM} {D : DY} {K : Int32 → IM → Prop} {T s : Tx} {w : Nat} (h : WRD I) (hM : MP I T (.inl s)) (hw : w < 33) : CI (d + 2) 236 [vR (some 106), vI (z32 (w : Int))] (mm I D) K ↔ K (b32 (wdOf s = wdsL.getD w [])) I := by
  obtain ⟨g1, g2, g3⟩ := hM.in
  have hl := g1.1
  have h160 := hM.1.2.1
  have hwl := wdOf_len s
  refine CI_iff (s_M_isNext _ ?_)
  rw [g2]
  refine isnext_end (d := d + 1) hM.1 s g1 ?_
  rw [g2]
  refine brP_i (fun q => qI_i ⟨?_, rfl⟩) (fun q => ?_)
  · rw [z32_le (by omega) (by omega) (by omega) (by omega)] at q
    have h0 : wdOf s = [] := List.eq_nil_of_length_eq_zero (by omega)
    rw [h0]
    exact (b32_f (fun c => wds_ne w hw c.symm)).symm
  · rw [e_isWord h hM.1 g1 hw]
    exact br0 (fun c => qI_i ⟨(b32_t c).symm, rfl⟩) (fun c => qI_i ⟨(b32_f c).symm, rfl⟩)
theorem wdP_dr {ws : List Tx} {s s2 : Tx} {q : Nat} (h : wdP ws s = .inl (q, s2)) : s2.length ≤ s.length := by
  rw [wdP_fd] at h
  cases hf : fdI (wdOf s) ws with
  | none => rw [hf] at h; cases h
  | some q =>
    rw [hf] at h
    cases h
    rw [List.length_drop]
    omega
theorem kdL_43 {g : Nat} {m x : Int32} {t : Tx} (h : x = 43) : kdL (g + 1) m (x :: t) = bnd (wdP kindW t) (fun k s => kdL g (m ||| ((1 : Int32) <<< z32 (k : Int))) s) := by
  show (if x = 43 then _ else _) = _
  rw [if_pos h]
theorem mkinds_loop {d : Nat} {I0 : IM} {D : DY} {K : Int32 → IM → Prop} {T : Tx} (hW : WRD I0) : ∀ (g : Nat) (I : IM), NFr I0 I → ∀ (m : Int32) (r : PS), MP I T r → (∀ s, r = .inl s → s.length ≤ g) →
    (∀ x I2, NFr I0 I2 → MP I2 T (aft (sq r (kdL g m))) → (∀ v s, sq r (kdL g m) = .inl (v, s) → x = v) → K x I2) →
    Wp GG (d + 3) 235 45 [vR (some 106), vI m] [] (mm I D) (qI (mm I0 D) K) := by
  intro g
  have hq0 : ∀ {I : IM} {x : Int32} {I2 : IM}, K x I2 → qI (mm I0 D) K (some (vI x)) (mm I2 D) := fun h => ⟨_, _, rfl, rfl, h⟩
  have flt : ∀ (g : Nat) (I : IM) (m0 : Nat) (m : Int32), NFr I0 I → MP I T (.inr m0) → (∀ x I2, NFr I0 I2 → MP I2 T (aft (sq (.inr m0) (kdL g m))) → (∀ v s, sq (.inr m0) (kdL g m) = .inl (v, s) → x = v) → K x I2) → Wp GG (d + 3) 235 45 [vR (some 106), vI m] [] (mm I D) (qI (mm I0 D) K) := fun g I m0 m f h k => by
    have hfl : ¬ I 106 4 < 0 := fun c => by
      obtain ⟨s, e⟩ := h.fl.mp c
      cases e
    exact s_M_readKinds_45 _ ((brP_t (Int32.not_lt.mp hfl)).mpr (hq0 (I := I) (k _ I f h (fun v s c => by cases c))))
  induction g with
  | zero =>
    intro I f m r h hg k
    rcases r with s | m0
    · obtain rfl : s = [] := List.eq_nil_of_length_eq_zero (by have := hg s rfl; omega)
      refine s_M_readKinds_45 _ ((brP_f (by rw [h.in.2.2]; decide)).mpr ?_)
      rw [e_here h]
      exact (brP_t (by decide)).mpr (hq0 (I := I) (k _ I f h (fun v s c => by cases c; rfl)))
    · exact flt 0 I m0 m f h k
  | succ g ih =>
    intro I f m r h hg k
    rcases r with s | m0
    · refine s_M_readKinds_45 _ ((brP_f (by rw [h.in.2.2]; decide)).mpr ?_)
      rw [e_here h]
      refine brP_i (fun c => ?_) (fun c => ?_)
      · have e0 : kdL (g + 1) m s = .inl (m, s) := by
          cases s with
          | nil => rfl
          | cons x t =>
            show (if x = 43 then _ else _) = _
            rw [if_neg (show ¬ x = 43 from c)]
        rw [sq_inl, e0] at k
        exact hq0 (I := I) (k _ I f h (fun v s c => by cases c; rfl))
      · cases s with
        | nil => exact absurd c (by decide)
        | cons x t =>
          have c : x = 43 := Classical.not_not.mp c
          subst c
          have e0 : kdL (g + 1) m (43 :: t) = bnd (wdP kindW t) (fun k s => kdL g (m ||| ((1 : Int32) <<< z32 (k : Int))) s) := kdL_43 rfl
          rw [sq_inl, e0] at k
          have hn := h.next.1
          have f1 : NFr I0 (up2 I 106 3 (I 106 3 + 1)) := f.tr (NFr.up (by omega))
          refine m_word (lo := 0) (hi := 8) (ws := kindW) (hW.nf f1) hn (by omega) (by decide) (fun x I2 f2 M2 hv he => ?_)
          rw [e_max]
          rw [sq_inl] at M2 hv he
          cases hw : wdP kindW t with
          | inl qs =>
            obtain ⟨q, s2⟩ := qs
            rw [hw] at M2 k
            obtain rfl := hv q s2 hw
            have hq : q < 9 := wdP_lt hw
            have e9 : (if (0 : Int32) < z32 (q : Int) then z32 (q : Int) else 0) = z32 (q : Int) := by
              by_cases h0 : q = 0
              · rw [h0]
                decide
              · rw [if_pos (by rw [z32_0, z32_lt] <;> omega)]
            rw [e9]
            refine ih I2 (f1.tr f2) _ (.inl s2) M2 (fun s hs => ?_) k
            cases hs
            have h1 := wdP_dr hw
            have h2 := hg _ rfl
            rw [List.length_cons] at h2
            omega
          | inr m0 =>
            rw [hw] at M2 k
            exact flt g I2 m0 _ (f1.tr f2) M2 (fun x I2 a b c => k x I2 a b (fun v s q => by cases q))
    · exact flt (g + 1) I m0 m f h k
theorem m_kinds {d : Nat} {I : IM} {D : DY} {K : Int32 → IM → Prop} {T : Tx} {r : PS} (hW : WRD I) (h : MP I T r)
    (k : ∀ x I2, NFr I I2 → MP I2 T (aft (sq r kdP)) → (∀ v s, sq r kdP = .inl (v, s) → x = v) → K x I2) : CI (d + 3) 235 [vR (some 106)] (mm I D) K := by
  refine s_M_readKinds (brP_i (fun q => ?_) (fun q => qI_i ?_))
  · obtain ⟨s, rfl⟩ := h.fl.mp q
    have hl := h.in.1.1
    have h160 := h.1.2.1
    rw [show (32 : Int32) = z32 ((32 : Nat) : Int) from rfl, e_isNext (w := 32) hW h (by omega), show wdsL.getD 32 [] = allV by decide]
    have ek : kdP s = bnd (wdP kinaW s) (fun k s => if k = 9 then .inl (511, s) else kdL 160 ((1 : Int32) <<< z32 (k : Int)) s) := rfl
    refine br0 (fun c => ?_) (fun c => ?_)
    · rw [sq_inl, ek, kina_eq, if_pos c] at k
      refine m_word (lo := 32) (hi := 32) (ws := [allV]) hW h (by omega) (by decide) (fun x I2 f2 M2 hv he => qI_i ?_)
      have e1 : wdP [allV] s = .inl (0, s.drop (wdOf s).length) := by
        rw [wdP_fd, c]
        rfl
      rw [sq_inl, e1] at M2
      exact k _ I2 f2 M2 (fun v s c => by cases c; rfl)
    · rw [sq_inl, ek, kina_eq, if_neg c] at k
      refine m_word (lo := 0) (hi := 8) (ws := kindW) hW h (by omega) (by decide) (fun x I2 f2 M2 hv he => ?_)
      rw [e_max]
      rw [sq_inl] at M2 hv he
      cases hw : wdP kindW s with
      | inl qs =>
        obtain ⟨q, s2⟩ := qs
        rw [hw] at M2 k
        obtain rfl := hv q s2 hw
        have hq : q < 9 := wdP_lt hw
        have e9 : (if (0 : Int32) < z32 (q : Int) then z32 (q : Int) else 0) = z32 (q : Int) := by
          by_cases h0 : q = 0
          · rw [h0]
            decide
          · rw [if_pos (by rw [z32_0, z32_lt] <;> omega)]
        rw [e9]
        have ek2 : bnd (.inl (q, s2) : PR Nat) (fun k s => if k = 9 then (.inl (511, s) : PR Int32) else kdL 160 ((1 : Int32) <<< z32 (k : Int)) s) = kdL 160 ((1 : Int32) <<< z32 (q : Int)) s2 := by
          show (if q = 9 then _ else _) = _
          rw [if_neg (by omega)]
        rw [ek2] at k
        refine mkinds_loop (d := d) (I0 := I) hW 160 I2 f2 _ (.inl s2) M2 (fun s hs => ?_) k
        cases hs
        have h1 := wdP_dr hw
        omega
      | inr m0 =>
        rw [hw] at M2 k
        refine mkinds_loop (d := d) (I0 := I) hW 160 I2 f2 _ (.inr m0) M2 (fun s hs => by cases hs) (fun x I2 a b c => k x I2 a b (fun v s q => by cases q))
  · rcases r with s | m
    · exact absurd (h.fl.mpr ⟨s, rfl⟩) q
    · exact k _ I NFr.rf h (fun v s c => by cases c)
def EFr (I I2 : IM) : Prop := ∀ q k, ¬ (q = 106 ∧ 2 ≤ k ∧ k ≤ 5) → I2 q k = I q k
theorem EFr.t {I I2 : IM} (h : EFr I I2) : SFt I I2 := fun q k e => h q k (fun c => e (by unfold Sc; omega))
theorem m_end_go {α : Type} {d : Nat} {I : IM} {D : DY} {T : Tx} {q : PR α} {A : Int32 → IM → Prop} (h : MP I T (aft q))
    (ka : ∀ a I2, allP T q = .inl a → q = .inl (a, []) → EFr I I2 → TPm I2 [] → A (-1) I2)
    (kb : ∀ f I2, allP T q = .inr f → EFr I I2 → TPm I2 [] → f ≤ 160 → I2 106 4 = z32 (f : Int) → A (z32 (f : Int)) I2) : CI (d + 1) 188 [vR (some 106)] (mm I D) A := by
  have h160 := h.1.2.1
  have nil : ∀ {J : IM}, EFr I J → J 106 2 = 0 → TPm J [] := fun f e => ⟨e, Nat.zero_le _, fun k hk => absurd hk (Nat.not_lt_zero _), fun x hx => absurd hx List.not_mem_nil, fun s hs => by
    obtain ⟨n, a, b⟩ := h.1.2.2.2.2 s hs
    exact ⟨n, a, (f _ _ (by omega)).trans b⟩⟩
  have fr : ∀ {J : IM} {v : Int32}, EFr J (up2 J 106 2 v) := fun q k c => if_neg (by omega)
  refine s_M_endReading ?_
  rcases q with ⟨a, s⟩ | m
  · have h : MP I T (.inl s) := h
    obtain ⟨g1, g2, g3⟩ := h.in
    have hl := g1.1
    refine (brP_f (by rw [g3]; decide)).mpr ?_
    rw [h.1.1, g2]
    cases s with
    | nil =>
      have h0 : ([] : Tx).length = 0 := rfl
      refine (brP_t (by rw [z32_le] <;> omega)).mpr (qI_i ?_)
      rw [g3]
      exact ka a _ rfl rfl fr (nil fr up2_eq)
    | cons x t =>
      rw [List.length_cons] at hl ⊢
      refine (brP_f (by rw [z32_le] <;> omega)).mpr ?_
      refine c_wrong (m := t.length + 1) h rfl hl (fun I2 f M e => qI_i ?_)
      have M : t.length + 1 ≤ T.length ∧ I2 106 4 = z32 ((T.length - (t.length + 1) : Nat) : Int) := M.2.2
      rw [M.2]
      refine kb (T.length - (t.length + 1)) _ rfl (fun q k c => ?_) (nil (fun q k c => (fr q k c).trans (f q k (by omega))) up2_eq) (by omega) ?_
      · exact (fr q k c).trans (f q k (by omega))
      · rw [up2_nj (by omega)]
        exact M.2
  · have h : m ≤ T.length ∧ I 106 4 = z32 ((T.length - m : Nat) : Int) := h.2.2
    refine (brP_t (by rw [h.2, z32_0, z32_le] <;> omega)).mpr (qI_i ?_)
    rw [h.2]
    exact kb (T.length - m) _ rfl fr (nil fr up2_eq) (by omega) ((up2_nj (by omega)).trans h.2)
theorem m_end_br {α : Type} {d : Nat} {I : IM} {D : DY} {T : Tx} {q : PR α} {A B : IM → Prop} (h : MP I T (aft q))
    (ka : ∀ a I2, allP T q = .inl a → q = .inl (a, []) → EFr I I2 → TPm I2 [] → A I2)
    (kb : ∀ f I2, allP T q = .inr f → EFr I I2 → TPm I2 [] → f ≤ 160 → -100 - I2 106 4 = fltV f → I2 106 4 = z32 (f : Int) → B I2) : CI (d + 1) 188 [vR (some 106)] (mm I D) (fun x I2 => brP (x < 0) (A I2) (B I2)) :=
  m_end_go h (fun a I2 h1 h2 h3 h4 => (brP_t (by decide)).mpr (ka a I2 h1 h2 h3 h4)) (fun f I2 h1 h3 h4 h5 h6 => (brP_f (by rw [z32_0, z32_lt] <;> omega)).mpr (kb f I2 h1 h3 h4 h5 (by
    rw [h6]
    show z32 (-100) - _ = _
    rw [z32_sub]
    rfl) h6))
theorem m_begin {d : Nat} {I : IM} {D : DY} {K : IM → Prop} {T : Tx} (h : TPm I T) (k : ∀ I2, NFr I I2 → MP I2 T (.inl T) → K I2) : CV d 171 [vR (some 106)] (mm I D) K := by
  have f : NFr I (up2 (up2 I 106 3 0) 106 4 (-1)) := (NFr.up (by omega)).tr (NFr.up (by omega))
  have e3 : up2 (up2 I 106 3 0) 106 4 (-1) 106 3 = z32 ((T.length - T.length : Nat) : Int) := by
    rw [up2_nj (by omega), up2_eq, Nat.sub_self]
    rfl
  exact s_M_beginReading (qV_i (k _ f ⟨h.nf f, ⟨_, by omega, e3⟩, sfx.self T, e3, up2_eq⟩))
