/-! The model's batches. -/
def HFr (I I2 : IM) : Prop := ∀ q k, ¬ ((q = 106 ∧ (k = 14 ∨ k = 25 ∨ k = 26 ∨ (31 ≤ k ∧ k ≤ 33) ∨ k = 42)) ∨ q = 111 ∨ (q = 112 ∧ k < 3) ∨ (113 ≤ q ∧ q ≤ 118) ∨ q = 120 ∨ q = 121 ∨ (122 ≤ q ∧ q ≤ 124)) → I2 q k = I q k
theorem HFr.rf {I : IM} : HFr I I := fun _ _ _ => rfl
theorem HFr.tr {I I2 I3 : IM} (h : HFr I I2) (h2 : HFr I2 I3) : HFr I I3 := fun q k e => (h2 q k e).trans (h q k e)
theorem AFr.h {I I2 : IM} (h : AFr I I2) : HFr I I2 := fun q k e => h q k (by omega)
theorem FoF.h {I I2 : IM} (h : FoF I I2) : HFr I I2 := fun q k e => h q k (by omega)
theorem HFr.b {I I2 : IM} (h : HFr I I2) : BFr I I2 := fun q k e => h q k (fun c => e (by unfold Sc; omega))
theorem RME.up {σ : SS} {I : IM} {k : Nat} {v : Int32} (h : RME σ I) (hk : (31 ≤ k ∧ k ≤ 33) ∨ k = 42) : RME σ (up2 I 106 k v) := h.st (SFr.up (by unfold Sc; omega)).t
theorem HFr.up {I : IM} {k : Nat} {v : Int32} (hk : (31 ≤ k ∧ k ≤ 33) ∨ k = 42) : HFr I (up2 I 106 k v) := fun q j c => if_neg (fun e => c (Or.inl ⟨e.1, by rw [e.2]; omega⟩))
/-- the store behind the lines that are carried, what was led aside -/
def thrS (r : Nat) : SS → List LN → Nat → SS
  | σ, [], _ => σ
  | σ, x :: l, e => if refV (stF (zC σ) (zL σ)) x.1 x.2.1 x.2.2.2.1 (z32 x.2.2.1) = 0 then (if e + evC x.2 ≤ r then thrS r (hapS σ x.1 x.2 (z32 x.2.2.1)) l (e + evC x.2) else σ) else σ
theorem hap_C {σ : SS} {s : Nat} {cm : Cm} {amt : Int32} : zC (hapS σ s cm amt) = zC σ ∧ zD (hapS σ s cm amt) = zD σ ∧ zV (hapS σ s cm amt) = zV σ ∧ (zL (hapS σ s cm amt)).length = (zL σ).length + evC cm := by
  unfold hapS evC
  by_cases q : cm.1 = 6
  · rw [if_pos q, if_pos q]
    refine ⟨rfl, rfl, rfl, ?_⟩
    rw [comS_len, comS_len]
  · rw [if_neg q, if_neg q]
    refine ⟨rfl, rfl, rfl, ?_⟩
    rw [comS_len]
theorem com_st {σ : SS} {s k : Nat} {a b : Int32} : stF (zC σ) (zL (comS σ s k a b)) = updF (stF (zC σ) (zL σ)) s (chg k a (stF (zC σ) (zL σ) s)) := by
  show stF (zC σ) (zL σ ++ [evN σ s k a b]) = _
  rw [stF_snoc, rdE_new]
  rfl
theorem hap_st {σ : SS} {x : LN} : stF (zC σ) (zL (hapS σ x.1 x.2 (z32 x.2.2.1))) = thkC (stF (zC σ) (zL σ)) x := by
  unfold hapS thkC
  by_cases q : x.2.1 = 6
  · rw [if_pos q, if_pos q]
    have e := com_st (σ := comS σ x.1 6 (z32 x.2.2.1) (z32 (x.2.2.2.1 : Int))) (s := x.2.2.2.1) (k := 7) (a := z32 x.2.2.1) (b := z32 (x.1 : Int))
    have e : stF (zC σ) (zL (comS (comS σ x.1 6 (z32 x.2.2.1) (z32 (x.2.2.2.1 : Int))) x.2.2.2.1 7 (z32 x.2.2.1) (z32 (x.1 : Int)))) = updF (stF (zC σ) (zL (comS σ x.1 6 (z32 x.2.2.1) (z32 (x.2.2.2.1 : Int))))) x.2.2.2.1 (chg 7 (z32 x.2.2.1) (stF (zC σ) (zL (comS σ x.1 6 (z32 x.2.2.1) (z32 (x.2.2.2.1 : Int)))) x.2.2.2.1)) := e
    rw [e, com_st]
  · rw [if_neg q, if_neg q, com_st]
theorem WF.hap {σ : SS} {s : Nat} {cm : Cm} {amt : Int32} (h : WF σ) (hs : s < 8) (ok : okCm cm) : WF (hapS σ s cm amt) := by
  unfold hapS
  by_cases q : cm.1 = 6
  · rw [if_pos q]
    exact (h.com hs (by omega)).com ok.2.2.2.2.1 (by omega)
  · rw [if_neg q]
    exact h.com hs ok.1
theorem hap_tk {σ : SS} {s : Nat} {cm : Cm} {amt : Int32} {n : Nat} (hn : n ≤ (zL σ).length) : (zL (hapS σ s cm amt)).take n = (zL σ).take n := by
  unfold hapS
  by_cases q : cm.1 = 6
  · rw [if_pos q]
    show ((zL σ ++ [_]) ++ [_]).take n = _
    rw [List.append_assoc, List.take_append_of_le_length hn]
  · rw [if_neg q]
    show (zL σ ++ [_]).take n = _
    rw [List.take_append_of_le_length hn]
theorem thr_ok {r : Nat} : ∀ (l : List LN) (σ : SS) (t e : Nat), zC (thrS r σ l e) = zC σ ∧ zD (thrS r σ l e) = zD σ ∧ zV (thrS r σ l e) = zV σ ∧ (zL (thrS r σ l e)).length + e = (zL σ).length + (thk r (stF (zC σ) (zL σ)) l t e).2.1 ∧ stF (zC σ) (zL (thrS r σ l e)) = (thk r (stF (zC σ) (zL σ)) l t e).2.2.2 ∧ (zL (thrS r σ l e)).take (zL σ).length = zL σ := by
  intro l
  induction l with
  | nil =>
    intro σ t e
    exact ⟨rfl, rfl, rfl, rfl, rfl, List.take_length⟩
  | cons x l ih =>
    intro σ t e
    unfold thrS thk
    by_cases q : refV (stF (zC σ) (zL σ)) x.1 x.2.1 x.2.2.2.1 (z32 x.2.2.1) = 0
    · rw [if_pos q, if_pos q]
      by_cases q2 : e + evC x.2 ≤ r
      · rw [if_pos q2, if_pos q2]
        obtain ⟨a1, a2, a3, a4, a5, a6⟩ := ih (hapS σ x.1 x.2 (z32 x.2.2.1)) (t + 1) (e + evC x.2)
        obtain ⟨b1, b2, b3, b4⟩ := hap_C (σ := σ) (s := x.1) (cm := x.2) (amt := z32 x.2.2.1)
        rw [b1, hap_st] at a4 a5
        refine ⟨a1.trans b1, a2.trans b2, a3.trans b3, by omega, a5, ?_⟩
        have := congrArg (fun y : List EV => y.take (zL σ).length) a6
        rw [List.take_take, Nat.min_eq_left (by omega), hap_tk (Nat.le_refl _), List.take_length] at this
        exact this
      · rw [if_neg q2, if_neg q2]
        exact ⟨rfl, rfl, rfl, rfl, rfl, List.take_length⟩
    · rw [if_neg q, if_neg q]
      exact ⟨rfl, rfl, rfl, rfl, rfl, List.take_length⟩
theorem thk_t {r : Nat} : ∀ (l : List LN) (f : Nat → S4) (t e : Nat), (thk r f l t e).1 ≤ t + l.length ∧ e ≤ (thk r f l t e).2.1 := by
  intro l
  induction l with
  | nil => intro f t e; exact ⟨Nat.le_refl _, Nat.le_refl _⟩
  | cons x l ih =>
    intro f t e
    unfold thk
    rw [List.length_cons]
    by_cases q : refV f x.1 x.2.1 x.2.2.2.1 (z32 x.2.2.1) = 0
    · rw [if_pos q]
      by_cases q2 : e + evC x.2 ≤ r
      · rw [if_pos q2]
        have := ih (thkC f x) (t + 1) (e + evC x.2)
        omega
      · rw [if_neg q2]
        exact ⟨Nat.le_add_right _ _, Nat.le_refl _⟩
    · rw [if_neg q]
      exact ⟨Nat.le_add_right _ _, Nat.le_refl _⟩
theorem WD_hap {σ : SS} {x : Nat → Int32} {s : Nat} {cm : Cm} {amt : Int32} : hapS (wD σ x) s cm amt = wD (hapS σ s cm amt) x := by
  unfold hapS
  by_cases q : cm.1 = 6
  · rw [if_pos q, if_pos q]
    rfl
  · rw [if_neg q, if_neg q]
    rfl
/-- all lines carried: what was led differs by their number -/
theorem carL_thr {n0 : Nat} : ∀ (l : List LN) (σ : SS) (x : Nat → Int32) (t e : Nat), (zL σ).length = n0 + e → n0 ≤ 240 → (thk (240 - n0) (stF (zC σ) (zL σ)) l t e).1 = t + l.length → carL (wD σ x) l = wD (thrS (240 - n0) σ l e) (updF x 0 (x 0 + z32 (l.length : Int))) := by
  intro l
  induction l with
  | nil =>
    intro σ x t e hl hn h
    show wD σ x = wD σ (updF x 0 (x 0 + z32 ((0 : Nat) : Int)))
    have : updF x 0 (x 0 + z32 ((0 : Nat) : Int)) = x := by
      funext j
      unfold updF
      by_cases q : j = 0
      · rw [if_pos q, q]
        exact Int32.add_zero (x 0)
      · rw [if_neg q]
    rw [this]
  | cons y l ih =>
    intro σ x t e hl hn h
    unfold thk at h
    unfold thrS
    rw [List.length_cons] at h
    by_cases q : refV (stF (zC σ) (zL σ)) y.1 y.2.1 y.2.2.2.1 (z32 y.2.2.1) = 0
    · rw [if_pos q] at h ⊢
      by_cases q2 : e + evC y.2 ≤ 240 - n0
      · rw [if_pos q2] at h ⊢
        obtain ⟨b1, b2, b3, b4⟩ := hap_C (σ := σ) (s := y.1) (cm := y.2) (amt := z32 y.2.2.1)
        have ec : (carS (wD σ x) y.1 y.2 (z32 y.2.2.1)).1 = wD (hapS σ y.1 y.2 (z32 y.2.2.1)) (updF x 0 (x 0 + 1)) := by
          have e1 : carS (wD σ x) y.1 y.2 (z32 y.2.2.1) = (telS (hapS (wD σ x) y.1 y.2 (z32 y.2.2.1)) 0, z32 (vrS (zL (hapS (wD σ x) y.1 y.2 (z32 y.2.2.1))) y.1 : Int)) := (if_pos q).trans (if_pos (by show (zL σ).length + evC y.2 ≤ 240; omega))
          rw [e1, WD_hap]
          rfl
        show carL (carS (wD σ x) y.1 y.2 (z32 y.2.2.1)).1 l = _
        rw [ec, ih (hapS σ y.1 y.2 (z32 y.2.2.1)) _ (t + 1) (e + evC y.2) (by omega) hn (by rw [b1, hap_st]; omega)]
        congr 1
        funext j
        unfold updF
        by_cases q3 : j = 0
        · rw [if_pos q3, if_pos q3, if_pos rfl, List.length_cons, Int32.add_assoc]
          congr 1
          show z32 1 + _ = _
          rw [z32_add]
          congr 1
          omega
        · rw [if_neg q3, if_neg q3, if_neg q3]
      · rw [if_neg q2] at h
        have h : t = t + (l.length + 1) := h
        omega
    · rw [if_neg q] at h
      have h : t = t + (l.length + 1) := h
      omega
theorem through_loop {d : Nat} {D : DY} {K : Int32 → IM → Prop} {l : List LN} {n0 : Nat} {I0 : IM} (ok : ∀ x ∈ l, okLn x) (hl : LNM I0 l) (hn0 : n0 ≤ 240) : ∀ (xs pre : List LN) (σ : SS) (e : Nat) (I : IM), l = pre ++ xs → HFr I0 I → RME σ I → WF σ → (zL σ).length = n0 + e → I 106 42 = 0 →
    (∀ I2, HFr I0 I2 → RME (thrS (240 - n0) σ xs e) I2 → I2 106 42 = b32 ((thk (240 - n0) (stF (zC σ) (zL σ)) xs pre.length e).2.2.1 = true) → K (z32 ((thk (240 - n0) (stF (zC σ) (zL σ)) xs pre.length e).1 : Int)) I2) →
    Wp GG (d + 7) 218 7 [vR (some 106), vI (z32 (pre.length : Int))] [] (mm I D) (qI (mm I0 D) K) := by
  intro xs
  induction xs with
  | nil =>
    intro pre σ e I hp f h wf hL h42 k
    have hl2 : l.length = pre.length := by rw [hp, List.append_nil]
    have h40 := hl.2.1
    have e37 : I 106 37 = z32 (l.length : Int) := (f _ _ (by omega)).trans hl.1
    refine s_M_through_7 _ ?_
    rw [e37, hl2]
    exact (brP_t (by rw [z32_le] <;> omega)).mpr ⟨_, _, rfl, rfl, k I f h h42⟩
  | cons x xs ih =>
    intro pre σ e I hp f h wf hL h42 k
    have hlen : l.length = pre.length + (xs.length + 1) := by rw [hp, List.length_append, List.length_cons]
    have hx : l[pre.length]? = some x := by rw [hp]; exact get_mid
    have hp2 : l = (pre ++ [x]) ++ xs := by rw [hp, List.append_assoc]; rfl
    have ih := fun σ e I => ih (pre ++ [x]) σ e I hp2
    rw [List.length_append, List.length_singleton] at ih
    have h40 := hl.2.1
    obtain ⟨hs, okc⟩ := ok x (by rw [hp]; simp)
    obtain ⟨r1, r2, r3, r4⟩ := hl.2.2 _ x hx
    have e37 : I 106 37 = z32 (l.length : Int) := (f _ _ (by omega)).trans hl.1
    have hb : inB (z32 (pre.length : Int)) 40 := inB_n (by omega) (by omega)
    have ix : ixN (z32 (pre.length : Int)) = pre.length := ix_n (by omega)
    have ek : thk (240 - n0) (stF (zC σ) (zL σ)) (x :: xs) pre.length e = if refV (stF (zC σ) (zL σ)) x.1 x.2.1 x.2.2.2.1 (z32 x.2.2.1) = 0 then (if e + evC x.2 ≤ 240 - n0 then thk (240 - n0) (thkC (stF (zC σ) (zL σ)) x) xs (pre.length + 1) (e + evC x.2) else (pre.length, e, false, stF (zC σ) (zL σ))) else (pre.length, e, true, stF (zC σ) (zL σ)) := rfl
    have es : thrS (240 - n0) σ (x :: xs) e = if refV (stF (zC σ) (zL σ)) x.1 x.2.1 x.2.2.2.1 (z32 x.2.2.1) = 0 then (if e + evC x.2 ≤ 240 - n0 then thrS (240 - n0) (hapS σ x.1 x.2 (z32 x.2.2.1)) xs (e + evC x.2) else σ) else σ := rfl
    rw [ek, es] at k
    refine s_M_through_7 _ ?_
    rw [e37, hlen]
    refine (brP_f (by rw [z32_le] <;> omega)).mpr (s_M_takeLine _ (tsP_i hb (tsP_i hb (tsP_i hb (qV_i (tsP_i hb ?_))))))
    rw [ix, f 128 _ (by omega), f 129 _ (by omega), f 130 _ (by omega), r2, r3, r4]
    generalize hJ : up2 (up2 (up2 I 106 31 (z32 (kc x.2.1 : Int))) 106 32 (z32 x.2.2.1)) 106 33 (z32 (x.2.2.2.1 : Int)) = J
    have fJ : HFr I0 J := hJ ▸ f.tr ((HFr.up (by omega)).tr ((HFr.up (by omega)).tr (HFr.up (by omega))))
    have hRJ : RME σ J := hJ ▸ ((h.up (by omega)).up (by omega)).up (by omega)
    have g31 : J 106 31 = z32 (kc x.2.1 : Int) := by rw [← hJ, up2_nj (by omega), up2_nj (by omega), up2_eq]
    have g32 : J 106 32 = z32 x.2.2.1 := by rw [← hJ, up2_nj (by omega), up2_eq]
    have g33 : J 106 33 = z32 (x.2.2.2.1 : Int) := by rw [← hJ, up2_eq]
    rw [fJ 127 _ (by omega), r1]
    refine c_mrefusal (d := d + 1) (k := x.2.1) (t := x.2.2.2.1) hRJ.1 hRJ.2.1 wf.1 wf.2.1 hs okc.2.2.2.2.1 okc.1 okc.2.1 g31 g32 g33 (fun I1 f1 => ?_)
    have h1 := hRJ.st f1.s.t
    have fI1 := fJ.tr f1.h
    refine brP_i (fun q => ?_) (fun q => ?_)
    · have q := refV_le.mp q
      rw [if_pos q, if_pos q] at k
      have hU : RME σ (up2 I1 106 42 0) := h1.up (by omega)
      have fU : HFr I0 (up2 I1 106 42 0) := fI1.tr (HFr.up (by omega))
      have u31 : up2 I1 106 42 0 106 31 = z32 (kc x.2.1 : Int) := by rw [up2_nj (by omega), f1 _ _ (by omega)]; exact g31
      have u32 : up2 I1 106 42 0 106 32 = z32 x.2.2.1 := by rw [up2_nj (by omega), f1 _ _ (by omega)]; exact g32
      have u33 : up2 I1 106 42 0 106 33 = z32 (x.2.2.2.1 : Int) := by rw [up2_nj (by omega), f1 _ _ (by omega)]; exact g33
      rw [e_mroom hU.1 okc u31]
      refine br1 (fun q2 => tsP_i hb ?_) (fun q2 => ?_)
      · rw [if_pos (by omega), if_pos (by omega), ] at k
        rw [fU 127 _ (by omega), r1]
        obtain ⟨b1, b2, b3, b4⟩ := hap_C (σ := σ) (s := x.1) (cm := x.2) (amt := z32 x.2.2.1)
        refine c_mhappen (d := d + 4) hU hs okc wf.2.2.1 q2 u31 u32 u33 (fun I2 f2 h2 => ?_)
        rw [z32_s]
        refine ih (hapS σ x.1 x.2 (z32 x.2.2.1)) (e + evC x.2) I2 (fU.tr f2.h) h2 (wf.hap hs okc) (by omega) ?_ ?_
        · rw [f2 _ _ (by omega), up2_eq]
        · rw [b1, hap_st]
          exact k
      · rw [if_neg (by omega), if_neg (by omega)] at k
        exact ⟨_, _, rfl, rfl, k _ fU hU up2_eq⟩
    · have q : ¬ refV (stF (zC σ) (zL σ)) x.1 x.2.1 x.2.2.2.1 (z32 x.2.2.1) = 0 := fun e => q (refV_le.mpr e)
      rw [if_neg q, if_neg q] at k
      exact ⟨_, _, rfl, rfl, k _ (fI1.tr (HFr.up (by omega))) (h1.up (by omega)) up2_eq⟩
theorem c_mthrough {d : Nat} {I : IM} {D : DY} {K : Int32 → IM → Prop} {l : List LN} {σ : SS} (ok : ∀ x ∈ l, okLn x) (hl : LNM I l) (h : RME σ I) (wf : WF σ)
    (k : ∀ I2, HFr I I2 → RME (thrS (240 - (zL σ).length) σ l 0) I2 → I2 106 42 = b32 ((thk (240 - (zL σ).length) (stF (zC σ) (zL σ)) l 0 0).2.2.1 = true) → K (z32 ((thk (240 - (zL σ).length) (stF (zC σ) (zL σ)) l 0 0).1 : Int)) I2) : CI (d + 7) 218 [vR (some 106)] (mm I D) K := by
  have fU : HFr I (up2 I 106 42 0) := HFr.up (by omega)
  exact s_M_through (through_loop (d := d) (I0 := I) ok hl h.1.2.1 l [] σ 0 (up2 I 106 42 0) rfl fU (h.up (by omega)) wf rfl up2_eq k)
/-! what is kept of the snapshots, what is cut -/
def KS (I0 G : IM) : Prop := (∀ s, s < 8 → G 131 s = I0 122 s) ∧ ∀ j, j < 32 → G 132 j = I0 123 j ∧ G 133 j = I0 124 j
theorem c_mkeep0 {d : Nat} {I : IM} {D : DY} {K : IM → Prop} (k : ∀ I2, (∀ q k, ¬ (131 ≤ q ∧ q ≤ 133) → I2 q k = I q k) → KS I I2 → K I2) : CV d 217 [vR (some 106), vI 0] (mm I D) K := by
  have second : ∀ (g j : Nat) (J : IM), j + g = 32 → (∀ q k, ¬ (131 ≤ q ∧ q ≤ 133) → J q k = I q k) → (∀ s, s < 8 → J 131 s = I 122 s) → (∀ i, i < j → J 132 i = I 123 i ∧ J 133 i = I 124 i) → Wp GG d 217 47 [vR (some 106), vI 0, vI (z32 (j : Int))] [] (mm J D) (qV (mm I D) K) := by
    intro g
    induction g with
    | zero =>
      intro j J hj f a b
      obtain rfl : j = 32 := by omega
      exact s_M_keepSnaps_47 _ _ ((brP_t (by decide)).mpr ⟨_, rfl, rfl, k J f ⟨a, b⟩⟩)
    | succ g ih =>
      intro j J hj f a b
      have hb : inB (z32 (j : Int)) 32 := inB_n (by omega) (by omega)
      refine s_M_keepSnaps_47 _ _ ((brP_f (by show ¬ z32 32 ≤ _; rw [z32_le] <;> omega)).mpr ((brP_t rfl).mpr (tsP_i hb (tsP_i hb (tsP_i hb (tsP_i hb ?_))))))
      rw [ix_n (by omega), z32_s]
      refine ih (j + 1) _ (by omega) (fun q k c => by rw [up2_ne (by omega), up2_ne (by omega)]; exact f q k c) (fun s hs => by rw [up2_ne (by omega), up2_ne (by omega)]; exact a s hs) (fun i hi => ?_)
      by_cases q : i = j
      · subst q
        rw [up2_ne (by omega), up2_eq, up2_eq, f 123 i (by omega), f 124 i (by omega)]
        exact ⟨rfl, rfl⟩
      · rw [up2_ne (by omega), up2_nj q, up2_nj q, up2_ne (by omega)]
        exact b i (by omega)
  have first : ∀ (g s : Nat) (J : IM), s + g = 8 → (∀ q k, ¬ (131 ≤ q ∧ q ≤ 133) → J q k = I q k) → (∀ i, i < s → J 131 i = I 122 i) → Wp GG d 217 2 [vR (some 106), vI 0, vI (z32 (s : Int))] [] (mm J D) (qV (mm I D) K) := by
    intro g
    induction g with
    | zero =>
      intro s J hs f a
      obtain rfl : s = 8 := by omega
      exact s_M_keepSnaps_2 _ _ ((brP_t (by decide)).mpr (second 32 0 J rfl f a (fun i hi => absurd hi (Nat.not_lt_zero _))))
    | succ g ih =>
      intro s J hs f a
      have hb : inB (z32 (s : Int)) 8 := inB_n (by omega) (by omega)
      refine s_M_keepSnaps_2 _ _ ((brP_f (by show ¬ z32 8 ≤ _; rw [z32_le] <;> omega)).mpr ((brP_t rfl).mpr (tsP_i hb (tsP_i hb ?_))))
      rw [ix_n (by omega), z32_s]
      refine ih (s + 1) _ (by omega) (fun q k c => by rw [up2_ne (by omega)]; exact f q k c) (fun i hi => ?_)
      by_cases q : i = s
      · rw [q, up2_eq, f 122 s (by omega)]
      · rw [up2_nj q]
        exact a i (by omega)
  exact s_M_keepSnaps _ (first 8 0 I rfl (fun _ _ _ => rfl) (fun i hi => absurd hi (Nat.not_lt_zero _)))
theorem c_mkeep1 {d : Nat} {I : IM} {D : DY} {K : IM → Prop} (k : ∀ I2, (∀ q k, ¬ ZS q → I2 q k = I q k) → (∀ s, s < 8 → I2 122 s = I 131 s) → (∀ j, j < 32 → I2 123 j = I 132 j ∧ I2 124 j = I 133 j) → K I2) : CV d 217 [vR (some 106), vI 1] (mm I D) K := by
  have second : ∀ (g j : Nat) (J : IM), j + g = 32 → (∀ q k, ¬ ZS q → J q k = I q k) → (∀ s, s < 8 → J 122 s = I 131 s) → (∀ i, i < j → J 123 i = I 132 i ∧ J 124 i = I 133 i) → Wp GG d 217 47 [vR (some 106), vI 1, vI (z32 (j : Int))] [] (mm J D) (qV (mm I D) K) := by
    intro g
    induction g with
    | zero =>
      intro j J hj f a b
      obtain rfl : j = 32 := by omega
      exact s_M_keepSnaps_47 _ _ ((brP_t (by decide)).mpr ⟨_, rfl, rfl, k J f a b⟩)
    | succ g ih =>
      intro j J hj f a b
      have hb : inB (z32 (j : Int)) 32 := inB_n (by omega) (by omega)
      refine s_M_keepSnaps_47 _ _ ((brP_f (by show ¬ z32 32 ≤ _; rw [z32_le] <;> omega)).mpr ((brP_f (by decide)).mpr (tsP_i hb (tsP_i hb (tsP_i hb (tsP_i hb ?_))))))
      rw [ix_n (by omega), z32_s]
      refine ih (j + 1) _ (by omega) (fun q k c => by rw [up2_ne (by unfold ZS at c; omega), up2_ne (by unfold ZS at c; omega)]; exact f q k c) (fun s hs => by rw [up2_ne (by omega), up2_ne (by omega)]; exact a s hs) (fun i hi => ?_)
      by_cases q : i = j
      · subst q
        rw [up2_ne (by omega), up2_eq, up2_eq, f 132 i (by unfold ZS; omega), f 133 i (by unfold ZS; omega)]
        exact ⟨rfl, rfl⟩
      · rw [up2_ne (by omega), up2_nj q, up2_nj q, up2_ne (by omega)]
        exact b i (by omega)
  have first : ∀ (g s : Nat) (J : IM), s + g = 8 → (∀ q k, ¬ ZS q → J q k = I q k) → (∀ i, i < s → J 122 i = I 131 i) → Wp GG d 217 2 [vR (some 106), vI 1, vI (z32 (s : Int))] [] (mm J D) (qV (mm I D) K) := by
    intro g
    induction g with
    | zero =>
      intro s J hs f a
      obtain rfl : s = 8 := by omega
      exact s_M_keepSnaps_2 _ _ ((brP_t (by decide)).mpr (second 32 0 J rfl f a (fun i hi => absurd hi (Nat.not_lt_zero _))))
    | succ g ih =>
      intro s J hs f a
      have hb : inB (z32 (s : Int)) 8 := inB_n (by omega) (by omega)
      refine s_M_keepSnaps_2 _ _ ((brP_f (by show ¬ z32 8 ≤ _; rw [z32_le] <;> omega)).mpr ((brP_f (by decide)).mpr (tsP_i hb (tsP_i hb ?_))))
      rw [ix_n (by omega), z32_s]
      refine ih (s + 1) _ (by omega) (fun q k c => by rw [up2_ne (by unfold ZS at c; omega)]; exact f q k c) (fun i hi => ?_)
      by_cases q : i = s
      · rw [q, up2_eq, f 131 s (by unfold ZS; omega)]
      · rw [up2_nj q]
        exact a i (by omega)
  exact s_M_keepSnaps _ (first 8 0 I rfl (fun _ _ _ => rfl) (fun i hi => absurd hi (Nat.not_lt_zero _)))
def UFr (I I2 : IM) : Prop := ∀ q k, ¬ ((q = 106 ∧ k = 14) ∨ q = 120) → I2 q k = I q k
theorem EVM.cut {I : IM} {L : List EV} {e : EV} {n : Nat} (h : EVM I L) (hn : n + 1 = L.length) (he : L[n]? = some e) (hs : eS e < 8) : EVM (up2 (up2 I 120 (eS e) (I 120 (eS e) - 1)) 106 14 (z32 (n : Int))) (L.take n) := by
  have h240 := h.2.1
  have hd : L = L.take n ++ [e] := by
    rw [← take_s he, hn, List.take_length]
  have hv : ∀ t, vrS L t = vrS (L.take n) t + if eS e = t then 1 else 0 := fun t => by
    conv => lhs; rw [hd]
    unfold vrS
    rw [List.filter_append, List.length_append]
    congr 1
    by_cases q : eS e = t
    · rw [if_pos q, List.filter_cons, if_pos (by rw [q]; simp)]
      rfl
    · rw [if_neg q, List.filter_cons, if_neg (by simp [q])]
      rfl
  have hl : (L.take n).length = n := by rw [List.length_take]; omega
  refine ⟨by rw [up2_eq, hl], by omega, fun i x hx c hc => ?_, fun t ht => ?_⟩
  · have hi : i < n := by
      have := (List.getElem?_eq_some_iff.mp hx).1
      omega
    rw [List.getElem?_take_of_lt hi] at hx
    rw [up2_ne (by omega), up2_ne (by omega)]
    exact h.2.2.1 i x hx c hc
  · have hvt := hv t
    have hle := vrS_le (L := L) (s := t)
    rw [up2_ne (by omega)]
    by_cases q : t = eS e
    · rw [q] at hvt hle ht ⊢
      rw [if_pos rfl] at hvt
      rw [up2_eq, h.2.2.2 _ ht, hvt, z32_p]
    · rw [up2_nj q, h.2.2.2 t ht, hvt, if_neg (fun c => q c.symm), Nat.add_zero]
theorem c_mcut {d : Nat} {I : IM} {D : DY} {K : IM → Prop} {L : List EV} {n : Nat} (h : EVM I L) (hs : ∀ e ∈ L, eS e < 8) (hn : n ≤ L.length) (k : ∀ I2, UFr I I2 → EVM I2 (L.take n) → K I2) : CV d 220 [vR (some 106), vI (z32 (n : Int))] (mm I D) K := by
  have body : ∀ (F : Prop) (J : IM) (m : Nat), n ≤ m → m ≤ L.length → UFr I J → EVM J (L.take m) → (n = m → qV (mm I D) K none (mm J D) → F) → True := fun _ _ _ _ _ _ _ _ => trivial
  have loop : ∀ (g m : Nat) (J : IM), n + g = m → m ≤ L.length → UFr I J → EVM J (L.take m) → Wp GG d 220 0 [vR (some 106), vI (z32 (n : Int))] [] (mm J D) (qV (mm I D) K) := by
    intro g
    induction g with
    | zero =>
      intro m J hm hml f hE
      obtain rfl : n = m := by omega
      have hl : (L.take n).length = n := by rw [List.length_take]; omega
      have h240 := hE.2.1
      refine s_M_cutTo_0 _ ?_
      rw [hE.1, hl]
      exact (brP_t (by rw [z32_le] <;> omega)).mpr ⟨_, rfl, rfl, k J f hE⟩
    | succ g ih =>
      intro m J hm hml f hE
      obtain ⟨m, rfl⟩ : ∃ m', m = m' + 1 := ⟨m - 1, by omega⟩
      have hl : (L.take (m + 1)).length = m + 1 := by rw [List.length_take]; omega
      have h240 := hE.2.1
      obtain ⟨e, he⟩ : ∃ e, L[m]? = some e := ⟨_, List.getElem?_eq_getElem (by omega)⟩
      have he2 : (L.take (m + 1))[m]? = some e := by rw [List.getElem?_take_of_lt (by omega)]; exact he
      have h8 := hs e (List.mem_of_getElem? he)
      have c0 : J 113 (m + 1) = z32 (eS e : Int) := hE.2.2.1 m e he2 0 (by omega)
      refine s_M_cutTo_0 _ ?_
      rw [hE.1, hl]
      refine (brP_f (by rw [z32_le] <;> omega)).mpr (tsP_i (inB_n (by omega) (by omega)) ?_)
      rw [ix_n (by omega), c0, ix_n (by omega), z32_p]
      refine tsP_i (inB_n h8 (by omega)) (tsP_i (inB_n h8 (by omega)) ?_)
      have hc := hE.cut (n := m) (by rw [hl]) he2 h8
      rw [List.take_take, Nat.min_eq_left (by omega)] at hc
      exact ih m _ (by omega) (by omega) (fun q k c => by rw [up2_if, if_neg (by omega), up2_ne (by omega)]; exact f q k c) hc
  have hst := loop (L.length - n) L.length I (by omega) (Nat.le_refl _) (fun _ _ _ => rfl) (by rw [List.take_length]; exact h)
  exact hst
