/-! Lines of a batch. -/
/-- .. and the lines' commands -/
def X46 (a : Nat) : Prop := a = 46 ∨ a = 51
theorem X46n : ∀ a, 159 ≤ a → ¬ X46 a := fun a h q => by rcases q with q | q <;> omega
theorem XL46 : ∀ a, XL a → X46 a := fun _ h => Or.inl h
def isB (I : IM) (D : DY) (l : List (Nat × Cm)) : Prop := I 49 3 = z32 (l.length : Int) ∧ l.length ≤ 40 ∧ ∀ i x, l[i]? = some x → I 50 i = z32 (x.1 : Int) ∧ x.1 < 8 ∧ ∃ a, dR D 51 i = some a ∧ isC I D a x.2
def PFb (I I2 : IM) (D : DY) : Prop := ∀ a k, a < dZ D → a ≠ 48 → a ≠ 50 → (a = 49 → k ≠ 3) → (a = 46 → k ≠ 3 ∧ k ≠ 5 ∧ k ≠ 6) → I2 a k = I a k
theorem PFa.b {I I2 : IM} {D : DY} (h : PFa I I2 D) : PFb I I2 D := fun a k h1 h2 _ _ h3 => h a k h1 h2 h3
theorem PFb.tr {X : Nat → Prop} {I I2 I3 : IM} {D D2 : DY} {c s : Nat} (h : PFb I I2 D) (hd : DX X D D2 c s) (h2 : PFb I2 I3 D2) : PFb I I3 D := fun a k h1 h3 h4 h5 h6 => (h2 a k (Nat.lt_of_lt_of_le h1 hd.1) h3 h4 h5 h6).trans (h a k h1 h3 h4 h5 h6)
theorem PFb.im {I I2 : IM} {D : DY} (h : PFb I I2 D) : IMF I I2 D := fun a k h1 h2 _ => h a k h2 (by omega) (by omega) (fun e => by omega) (fun e => by omega)
theorem SOK.fb {I I2 : IM} {D : DY} (h : SOK I) (hf : PFb I I2 D) (hz : 159 ≤ dZ D) : SOK I2 := fun j hj => ⟨by rw [hf _ _ (by omega) (by omega) (by omega) (fun q => by omega) (fun q => by omega)]; exact (h j hj).1, fun k hk => by rw [hf _ _ (by omega) (by omega) (by omega) (fun q => by omega) (fun q => by omega)]; exact (h j hj).2 k hk⟩
theorem c_badd {d : Nat} {I : IM} {D : DY} {K : IM → DY → Prop} {x : Int32} {a sz : Nat} (ha : 159 ≤ a) (hk : dK D a = 2) (hs : sz ≤ 40) (h3 : I 49 3 = z32 (sz : Int))
    (k1 : sz = 40 → K I D) (k2 : sz < 40 → K (up2 (up2 I 50 sz x) 49 3 (z32 ((sz + 1 : Nat) : Int))) (dset D 51 sz (some a))) : AV d 66 [vR (some 49), vI x, vR (some a)] (mm I D) K := by
  refine s_Batch_add _ _ ?_
  rw [h3]
  refine brP_i (fun q => ?_) (fun q => ?_)
  · have q : z32 40 ≤ z32 (sz : Int) := q
    rw [z32_le (by omega) (by omega) (by omega) (by omega)] at q
    exact aV_i rfl (k1 (by omega))
  · have q : ¬ z32 40 ≤ z32 (sz : Int) := q
    rw [z32_le (by omega) (by omega) (by omega) (by omega)] at q
    have hb : inB (z32 (sz : Int)) 40 := by
      show 0 ≤ _ ∧ _
      rw [z32_toInt (by omega) (by omega)]
      omega
    refine tsP_i hb (tsP_i hb (astP_i (fun b e => ?_) ?_))
    · cases e
      rw [mmK ha]
      exact hk
    · rw [ix_n (by omega), setR_m (show isFn 51 sz = false from rfl)]
      have e3 : z32 (sz : Int) + 1 = z32 ((sz + 1 : Nat) : Int) := by
        show z32 _ + z32 1 = _
        rw [z32_add]
        rfl
      rw [e3]
      exact aV_i rfl (k2 (by omega))
theorem lnP_lt {s : Tx} {x : Nat × Cm} {s2 : Tx} (h : lnP s = .inl (x, s2)) : x.1 < 8 := by
  unfold lnP at h
  cases hn : nbP 7 s with
  | inr m => rw [hn] at h; cases h
  | inl v =>
    obtain ⟨v, s1⟩ := v
    rw [hn] at h
    have h : bnd (tkP 58 s1) _ = _ := h
    cases ht : tkP 58 s1 with
    | inr m => rw [ht] at h; cases h
    | inl u =>
      obtain ⟨u, s3⟩ := u
      rw [ht] at h
      have h : bnd (cmP false s3) _ = _ := h
      cases hc : cmP false s3 with
      | inr m => rw [hc] at h; cases h
      | inl c =>
        obtain ⟨c, s4⟩ := c
        rw [hc] at h
        cases h
        unfold nbP at hn
        split at hn
        · cases hn
        · cases hn
          show Int.toNat _ < 8
          omega
theorem lines_loop {d : Nat} (hd : 81 ≤ d) {I0 : IM} {D0 : DY} {K : IM → DY → Prop} {T : Tx} (hz0 : 159 ≤ dZ D0) (hS0 : SOK I0) : ∀ (g i : Nat), i + g = 40 → ∀ (I : IM) (D : DY) (l : List (Nat × Cm)) (s : Tx) (w : PV), l.length = i → DX X46 D0 D (4 * i) (198 * i) → PFb I0 I D0 → PC I T (.inl s) → isB I D l →
    (∀ I2 D2, DX X46 D0 D2 160 7920 → PFb I0 I2 D0 → PC I2 T (aft (lnsP g l s)) → (∀ l2 s2, lnsP g l s = .inl (l2, s2) → isB I2 D2 l2) → K I2 D2) →
    Wp GG (d + 1) 64 6 [vR (some 46), vR (some 49), vI (z32 (i : Int)), w] [] (mm I D) (aV K) := by
  intro g
  induction g with
  | zero =>
    intro i hi I D l s w hl hdx hf hP hB k
    refine s_Tape_readLines_6 _ _ ?_
    rw [brP_t (by show z32 40 ≤ _; rw [z32_le] <;> omega)]
    exact aV_i rfl (k I D (hdx.le (by omega) (by omega)) hf hP (fun l2 s2 e => by cases e; exact hB))
  | succ g ih =>
    intro i hi I D l s w hl hdx hf hP hB k
    obtain ⟨d, rfl⟩ : ∃ d', d = d' + 1 := ⟨d - 1, by omega⟩
    have hz : 159 ≤ dZ D := Nat.le_trans hz0 hdx.1
    have hS := hS0.fb hf hz0
    refine s_Tape_readLines_6 _ _ ?_
    rw [brP_f (by show ¬ z32 40 ≤ _; rw [z32_le] <;> omega)]
    refine c_number (d := d) (most := 7) (by omega) (by omega) hP (fun x I1 hf1 hP1 hv1 => ?_)
    refine c_take (d := d) hP1 (by decide) (fun I2 hf2 hP2 => ?_)
    have hf12 := hf1.tr hf2
    refine c_command (d := d) (pol := false) (by omega) hz (hS.fr hf12) hP2 (fun a I3 D3 h1 h2 h3 h4 h5 h6 h7 h8 => ?_)
    have h51 := (h1.2.2.2 51 (by omega)).2.2.2 (fun e => by have e : 51 = 46 := e; omega)
    have h1 := h1.mono XL46
    have hf3 : PFa I I3 D := fun b j hb hc he => (h2 b j hb hc he).trans (hf12.x b j hc he)
    have h493 : I3 49 3 = z32 (i : Int) := by
      rw [hf3 49 3 (by omega) (by omega) (fun e => by omega), hB.1, hl]
    have eln : aft (sq (aft (sq (aft (sq (.inl s) (nbP 7))) (tkP 58))) (cmP false)) = aft (lnP s) ∧ ∀ y s2, lnP s = .inl (y, s2) → x = z32 (y.1 : Int) ∧ isC I3 D3 a y.2 := by
      rw [sq_inl] at *
      unfold lnP
      rcases hn : nbP 7 s with ⟨v, s1⟩ | m
      · rw [hn] at hv1 h8
        show aft (sq (aft (tkP 58 s1)) (cmP false)) = aft (bnd (tkP 58 s1) _) ∧ ∀ y s2, bnd (tkP 58 s1) _ = _ → _
        rcases ht : tkP 58 s1 with ⟨u, s3⟩ | m
        · have h8 : ∀ cm s, sq (aft (tkP 58 s1)) (cmP false) = .inl (cm, s) → isC I3 D3 a cm := h8
          rw [ht] at h8
          show aft (cmP false s3) = aft (bnd (cmP false s3) _) ∧ ∀ y s2, bnd (cmP false s3) _ = _ → _
          rcases hc : cmP false s3 with ⟨c, s4⟩ | m
          · refine ⟨rfl, fun y s2 e => ?_⟩
            cases e
            refine ⟨?_, h8 c s4 hc⟩
            rw [hv1 v s1 rfl]
            show z32 v = z32 ((v.toNat : Nat) : Int)
            have hv0 : 0 ≤ v := by
              unfold nbP at hn
              split at hn
              · cases hn
              · cases hn
                exact (dgV_b _ (dgOf s) rfl List.all_takeWhile).1
            rw [Int.toNat_of_nonneg hv0]
          · exact ⟨rfl, fun y s2 e => by cases e⟩
        · exact ⟨rfl, fun y s2 e => by cases e⟩
      · exact ⟨rfl, fun y s2 e => by cases e⟩
    rw [eln.1] at h3
    have hdx3 := hdx.tr h1
    refine c_badd (x := x) h4 h7 (by omega) h493 (fun e => absurd e (by omega)) (fun _ => ?_)
    generalize hI4 : up2 (up2 I3 50 i x) 49 3 (z32 ((i + 1 : Nat) : Int)) = I4
    have o4 : ∀ b j, b ≠ 50 → (b = 49 → j ≠ 3) → I4 b j = I3 b j := fun b j hb hc => by
      rw [← hI4]
      by_cases e : b = 49
      · subst e
        rw [up2_nj (hc rfl), up2_ne (by omega)]
      · rw [up2_ne e, up2_ne hb]
    have hz3 : dZ D ≤ dZ D3 := h1.1
    have hdx4 : DX X46 D3 (dset D3 51 i (some a)) 0 0 := DX.set (Or.inr rfl)
    have hP4 : PC I4 T (aft (lnP s)) := by
      obtain ⟨⟨t1, t2, t3, t4⟩, g2, g3, g4⟩ := h3
      exact ⟨⟨by rw [o4 46 4 (by omega) (fun e => by omega)]; exact t1, t2, fun q hq => by rw [o4 47 q (by omega) (fun e => by omega)]; exact t3 q hq, t4⟩, g2, by rw [o4 46 5 (by omega) (fun e => by omega)]; exact g3, by rw [o4 46 6 (by omega) (fun e => by omega)]; exact g4⟩
    have hf4 : PFb I0 I4 D0 := hf.tr hdx (fun b j hb hc he hg hh => by
      rw [o4 b j he hg]
      exact hf3 b j hb hc hh)
    have hdx5 : DX X46 D0 (dset D3 51 i (some a)) (4 * (i + 1)) (198 * (i + 1)) := (hdx3.tr hdx4).le (by omega) (by omega)
    have hB4 : ∀ y s2, lnP s = .inl (y, s2) → isB I4 (dset D3 51 i (some a)) (l ++ [y]) := fun y s2 e => by
      obtain ⟨g1, g2⟩ := eln.2 y s2 e
      have him : IMF I3 I4 D3 := fun b j hb _ _ => o4 b j (by omega) (fun e => by omega)
      refine ⟨?_, by rw [List.length_append, List.length_singleton]; omega, fun n z hn => ?_⟩
      · rw [← hI4, up2_eq, List.length_append, List.length_singleton, hl]
      · rcases Nat.lt_or_ge n l.length with q | q
        · rw [List.getElem?_append_left q] at hn
          obtain ⟨b1, b2, b, b3, b4⟩ := hB.2.2 n z hn
          refine ⟨?_, b2, b, ?_, ((b4.mono h1 X46n hf3.im).mono hdx4 X46n him)⟩
          · rw [← hI4, up2_ne (by omega), up2_nj (by omega), hf3 50 n (by omega) (by omega) (fun e => by omega)]
            exact b1
          · show up2 (dR D3) 51 i (some a) 51 n = _
            rw [up2_nj (by omega), h51]
            exact b3
        · rw [List.getElem?_append_right q] at hn
          have hn0 : n - l.length = 0 := by
            rcases Nat.eq_zero_or_pos (n - l.length) with z0 | z0
            · exact z0
            · rw [List.getElem?_eq_none (by rw [List.length_singleton]; omega)] at hn
              cases hn
          rw [hn0] at hn
          cases hn
          obtain rfl : n = i := by omega
          refine ⟨?_, lnP_lt e, a, dR_s, g2.mono hdx4 X46n him⟩
          rw [← hI4, up2_ne (by omega), up2_eq, g1]
    rw [e_peek hP4]
    have elns : lnsP (g + 1) l s = bnd (lnP s) (fun c s => match s with
      | x :: t => if x = 59 then lnsP g (l ++ [c]) t else .inl (l ++ [c], x :: t)
      | [] => .inl (l ++ [c], [])) := by
      show bnd (lnP s) _ = bnd (lnP s) _
      congr 1
      funext c s
      cases s <;> rfl
    rw [elns] at k
    refine brP_i (fun z => ?_) (fun z => ?_)
    · obtain ⟨t, ht⟩ := pk_cons z (by decide)
      have e3 : z32 (i : Int) + 1 = z32 ((i + 1 : Nat) : Int) := by
        show z32 _ + z32 1 = _
        rw [z32_add]
        rfl
      rcases hln : lnP s with ⟨y, s2⟩ | m
      · rw [hln] at ht k hP4
        have ht : Sum.inl s2 = (.inl (59 :: t) : PS) := ht
        cases ht
        have hk : bnd (.inl (y, 59 :: t) : PR (Nat × Cm)) (fun c s => match s with
          | x :: t => if x = 59 then lnsP g (l ++ [c]) t else .inl (l ++ [c], x :: t)
          | [] => .inl (l ++ [c], [])) = lnsP g (l ++ [y]) t := by
          show (if (59 : Int32) = 59 then lnsP g (l ++ [y]) t else .inl (l ++ [y], 59 :: t)) = _
          rw [if_pos rfl]
        rw [hk] at k
        rw [e3]
        refine ih (i + 1) (by omega) _ _ (l ++ [y]) t _ (by rw [List.length_append, List.length_singleton]; omega) hdx5 (hf4.tr hdx5 (PFr.up (by omega)).x.a.b) (PC.next (x := 59) hP4) ?_ k
        have hb := hB4 y _ hln
        refine ⟨?_, hb.2.1, fun n z hn => ?_⟩
        · rw [up2_ne (by omega)]
          exact hb.1
        · obtain ⟨b1, b2, b, b3, b4⟩ := hb.2.2 n z hn
          refine ⟨by rw [up2_ne (by omega)]; exact b1, b2, b, b3, b4.mono (DX.rf (X := X46) (c := 0) (s := 0)) X46n (fun b j hb _ _ => up2_ne (by omega))⟩
      · rw [hln] at ht
        cases ht
    · refine aV_i rfl ?_
      rcases hln : lnP s with ⟨y, s2⟩ | m
      · rw [hln] at k hP4 z
        have hk : bnd (.inl (y, s2) : PR (Nat × Cm)) (fun c s => match s with
          | x :: t => if x = 59 then lnsP g (l ++ [c]) t else .inl (l ++ [c], x :: t)
          | [] => .inl (l ++ [c], [])) = .inl (l ++ [y], s2) := by
          cases s2 with
          | nil => rfl
          | cons x t =>
            have z : ¬ x = 59 := z
            exact if_neg z
        rw [hk] at k
        exact k _ _ (hdx5.le (by omega) (by omega)) hf4 hP4 (fun l2 s3 e => by cases e; exact hB4 y s2 hln)
      · rw [hln] at k hP4
        exact k _ _ (hdx5.le (by omega) (by omega)) hf4 hP4 (fun l2 s3 e => by cases e)
theorem c_readLines {d : Nat} (hd : 81 ≤ d) {I : IM} {D : DY} {K : IM → DY → Prop} {T : Tx} (hz : 159 ≤ dZ D) (hS : SOK I) (h : PC I T (.inl T))
    (k : ∀ I2 D2, DX X46 D D2 160 7920 → PFb I I2 D → PC I2 T (aft (lnsP 40 [] T)) → (∀ l2 s2, lnsP 40 [] T = .inl (l2, s2) → isB I2 D2 l2) → K I2 D2) : AV (d + 1) 64 [vR (some 46), vR (some 49)] (mm I D) K := by
  refine s_Tape_readLines ?_
  have hc : CV d 65 [vR (some 49)] (mm I D) (fun I2 => I2 = up2 I 49 3 0) := s_Batch_clear (qV_i rfl)
  rw [CV_iff hc]
  have hf : PFb I (up2 I 49 3 0) D := fun a j h1 h2 h3 h4 h5 => by
    by_cases e : a = 49
    · subst e
      exact up2_nj (h4 rfl)
    · exact up2_ne e
  refine lines_loop hd hz hS 40 0 rfl _ _ [] T _ rfl DX.rf hf ?_ ⟨up2_eq, by decide, fun i x e => by cases e⟩ k
  obtain ⟨⟨t1, t2, t3, t4⟩, g2, g3, g4⟩ := h
  exact ⟨⟨by rw [up2_ne (by omega)]; exact t1, t2, fun q hq => by rw [up2_ne (by omega)]; exact t3 q hq, t4⟩, g2, by rw [up2_ne (by omega)]; exact g3, by rw [up2_ne (by omega)]; exact g4⟩
