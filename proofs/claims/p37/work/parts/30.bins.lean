/-! Bins: the states of all streams. -/
def BN (c : Nat) (I : IM) (f : Nat → S4) : Prop := ∀ s w, s < 8 → w < 4 → I c (s * 4 + w) = s4 w (f s)
def updF {α : Type} (f : Nat → α) (s : Nat) (x : α) : Nat → α := fun t => if t = s then x else f t
theorem updF_eq {α : Type} {f : Nat → α} {s : Nat} {x : α} : updF f s x s = x := if_pos rfl
theorem updF_ne {α : Type} {f : Nat → α} {s t : Nat} {x : α} (h : t ≠ s) : updF f s x t = f t := if_neg h
theorem updF_upd {α : Type} {f : Nat → α} {s : Nat} {x y : α} : updF (updF f s x) s y = updF f s y := by
  funext t
  unfold updF
  by_cases h : t = s
  · rw [if_pos h, if_pos h]
  · rw [if_neg h, if_neg h, if_neg h]
theorem BN.fr {c : Nat} {I I2 : IM} {f : Nat → S4} (h : BN c I f) (hf : ∀ k, I2 c k = I c k) : BN c I2 f := fun s w hs hw => (hf _).trans (h s w hs hw)
theorem BN.put {c : Nat} {I : IM} {f : Nat → S4} {s w : Nat} {v : Int32} {x : S4} (h : BN c I f) (hw : w < 4) (hx1 : s4 w x = v) (hx2 : ∀ q, q < 4 → q ≠ w → s4 q x = s4 q (f s)) : BN c (up2 I c (s * 4 + w) v) (updF f s x) := fun t q ht hq => by
  by_cases e : t = s
  · subst e
    rw [updF_eq]
    by_cases e2 : q = w
    · subst e2
      rw [up2_eq, hx1]
    · rw [up2_nj (by omega), h t q ht hq, hx2 q hq e2]
  · rw [updF_ne e, up2_nj (by omega), h t q ht hq]
/-- a Bins and its cells -/
def BB (b c : Nat) : Prop := (∀ I D, pKd (mm I D) b = 1) ∧ (∀ I D, pR (mm I D) b 0 = some c) ∧ (∀ I D, pKd (mm I D) c = 20) ∧ ∀ I D, pLn (mm I D) c = 32
theorem BB52 : BB 52 53 := ⟨fun _ _ => rfl, fun _ _ => rfl, fun _ _ => rfl, fun _ _ => rfl⟩
theorem BB59 : BB 59 60 := ⟨fun _ _ => rfl, fun _ _ => rfl, fun _ _ => rfl, fun _ _ => rfl⟩
theorem BB61 : BB 61 62 := ⟨fun _ _ => rfl, fun _ _ => rfl, fun _ _ => rfl, fun _ _ => rfl⟩
theorem BB85 : BB 85 86 := ⟨fun _ _ => rfl, fun _ _ => rfl, fun _ _ => rfl, fun _ _ => rfl⟩
theorem e_bg {d : Nat} {I : IM} {D : DY} {K : Int32 → IM → Prop} {b c s w : Nat} {lit : Int32} {f : Nat → S4} (hb : BB b c) (h : BN c I f) (hs : s < 8) (hw : w < 4) (hl : lit = z32 (w : Int)) : CI d 51 [vR (some b), vI (z32 (s : Int)), vI lit] (mm I D) K ↔ K (s4 w (f s)) I := by
  subst hl
  rw [e_bget b c (s : Int) (w : Int) (hb.1 _ _) (hb.2.1 _ _) (hb.2.2.1 _ _) (hb.2.2.2 _ _) (by omega) (by omega), show ((s : Int) * 4 + (w : Int)).toNat = s * 4 + w by omega, h s w hs hw]
theorem e_bput {d : Nat} {I : IM} {D : DY} {K : IM → Prop} {b c s w : Nat} {lit v : Int32} (hb : BB b c) (hs : s < 8) (hw : w < 4) (hl : lit = z32 (w : Int)) : CV d 59 [vR (some b), vI (z32 (s : Int)), vI lit, vI v] (mm I D) K ↔ K (up2 I c (s * 4 + w) v) := by
  subst hl
  refine CV_iff (s_Bins_put _ _ _ _ ?_)
  have e : z32 (s : Int) * 4 + z32 (w : Int) = z32 ((s * 4 + w : Nat) : Int) := by
    show z32 _ * z32 4 + _ = _
    rw [z32_mul, z32_add]
    congr 1
  rw [e]
  refine (brP_f (by rw [z32_0, z32_lt] <;> omega)).mpr (tsP_i (hb.1 _ _) (onR_i (hb.2.1 _ _) (tsP_i (by rw [hb.2.2.1]; omega) ?_)))
  rw [hb.2.2.2, ofNat_z]
  refine (brP_f (by rw [z32_le] <;> omega)).mpr (tsP_i (hb.1 _ _) (onR_i (hb.2.1 _ _) (tsP_i (hb.2.2.1 _ _) (tsP_i (by rw [hb.2.2.2]; exact inB_n (by omega) (by omega)) ?_))))
  rw [ix_n (by omega)]
  exact qV_i rfl
theorem e_bmore {d : Nat} {I : IM} {D : DY} {K : IM → Prop} {b c s w : Nat} {lit v : Int32} {f : Nat → S4} (hb : BB b c) (h : BN c I f) (hs : s < 8) (hw : w < 4) (hl : lit = z32 (w : Int)) : CV (d + 1) 60 [vR (some b), vI (z32 (s : Int)), vI lit, vI v] (mm I D) K ↔ K (up2 I c (s * 4 + w) (s4 w (f s) + v)) := by
  refine CV_iff (s_Bins_more _ _ _ _ (tsP_i (hb.1 _ _) ?_))
  rw [e_bg hb h hs hw hl]
  refine tsP_i (hb.1 _ _) ?_
  rw [e_bput hb hs hw hl]
  exact qV_i rfl
theorem s4_upd (x : S4) : ∀ q, q < 4 → (q ≠ 0 → ∀ v, s4 q (v, x.2.1, x.2.2.1, x.2.2.2) = s4 q x) ∧ (q ≠ 1 → ∀ v, s4 q (x.1, v, x.2.2.1, x.2.2.2) = s4 q x) ∧ (q ≠ 2 → ∀ v, s4 q (x.1, x.2.1, v, x.2.2.2) = s4 q x) ∧ (q ≠ 3 → ∀ v, s4 q (x.1, x.2.1, x.2.2.1, v) = s4 q x) := fun q hq => by
  obtain rfl | rfl | rfl | rfl : q = 0 ∨ q = 1 ∨ q = 2 ∨ q = 3 := by omega
  all_goals exact ⟨fun h v => by first | rfl | exact absurd rfl h, fun h v => by first | rfl | exact absurd rfl h, fun h v => by first | rfl | exact absurd rfl h, fun h v => by first | rfl | exact absurd rfl h⟩
theorem neg_i (x y : Int32) : x + -y = x - y := by rw [Int32.sub_eq_add_neg]
theorem c_bchange {d : Nat} {I : IM} {D : DY} {K : IM → Prop} {b c s kd : Nat} {a : Int32} {f : Nat → S4} (hb : BB b c) (h : BN c I f) (hs : s < 8) (hk : kd < 9) (k : ∀ I2, (∀ q j, q ≠ c → I2 q j = I q j) → BN c I2 (updF f s (chg kd a (f s))) → K I2) :
    CV (d + 2) 58 [vR (some b), vI (z32 (s : Int)), vI (z32 (kd : Int)), vI a] (mm I D) K := by
  refine s_Bins_change _ _ _ _ ?_
  have hu := s4_upd (f s)
  have h1 : ∀ {w : Nat} {v : Int32} {x : S4}, w < 4 → s4 w x = v → (∀ q, q < 4 → q ≠ w → s4 q x = s4 q (f s)) → x = chg kd a (f s) → K (up2 I c (s * 4 + w) v) := fun hw e1 e2 e3 => k _ (fun q j hq => up2_ne hq) (e3 ▸ h.put hw e1 e2)
  obtain rfl | rfl | rfl | rfl | rfl | rfl | rfl | rfl | rfl : kd = 0 ∨ kd = 1 ∨ kd = 2 ∨ kd = 3 ∨ kd = 4 ∨ kd = 5 ∨ kd = 6 ∨ kd = 7 ∨ kd = 8 := by omega
  · refine (brP_t (by decide)).mpr (tsP_i (hb.1 _ _) ?_)
    rw [e_bput (w := 0) (lit := 0) hb hs (by omega) rfl]
    refine tsP_i (hb.1 _ _) ?_
    rw [e_bput (w := 3) (lit := 3) hb hs (by omega) rfl]
    refine qV_i (k _ (fun q j hq => by rw [up2_ne hq, up2_ne hq]) ?_)
    have q1 := h.put (s := s) (w := 0) (v := 1) (x := (1, (f s).2.1, (f s).2.2.1, (f s).2.2.2)) (by omega) rfl (fun q hq hn => (hu q hq).1 hn 1)
    have q2 := q1.put (s := s) (w := 3) (v := a) (x := (1, (f s).2.1, (f s).2.2.1, a)) (by omega) rfl (fun q hq hn => by rw [updF_eq]; exact (s4_upd (1, (f s).2.1, (f s).2.2.1, (f s).2.2.2) q hq).2.2.2 hn a)
    rwa [updF_upd] at q2
  · refine (brP_f (by decide)).mpr ((brP_t (by decide)).mpr (tsP_i (hb.1 _ _) ?_))
    rw [e_bmore (w := 1) (lit := 1) hb h hs (by omega) rfl]
    exact qV_i (h1 (by omega) rfl (fun q hq hn => (hu q hq).2.1 hn _) rfl)
  · refine (brP_f (by decide)).mpr ((brP_f (by decide)).mpr ((brP_t (by decide)).mpr (tsP_i (hb.1 _ _) ?_)))
    rw [e_bmore (w := 1) (lit := 1) hb h hs (by omega) rfl, neg_i]
    exact qV_i (h1 (by omega) rfl (fun q hq hn => (hu q hq).2.1 hn _) rfl)
  · iterate 3 refine (brP_f (by decide)).mpr ?_
    refine (brP_t (by decide)).mpr (tsP_i (hb.1 _ _) ?_)
    rw [e_bmore (w := 2) (lit := 2) hb h hs (by omega) rfl]
    exact qV_i (h1 (by omega) rfl (fun q hq hn => (hu q hq).2.2.1 hn _) rfl)
  · iterate 4 refine (brP_f (by decide)).mpr ?_
    refine (brP_t (by decide)).mpr (tsP_i (hb.1 _ _) ?_)
    rw [e_bmore (w := 2) (lit := 2) hb h hs (by omega) rfl, neg_i]
    exact qV_i (h1 (by omega) rfl (fun q hq hn => (hu q hq).2.2.1 hn _) rfl)
  · iterate 5 refine (brP_f (by decide)).mpr ?_
    refine (brP_t (by decide)).mpr (tsP_i (hb.1 _ _) ?_)
    rw [e_bput (w := 3) (lit := 3) hb hs (by omega) rfl]
    exact qV_i (h1 (by omega) rfl (fun q hq hn => (hu q hq).2.2.2 hn _) rfl)
  · iterate 6 refine (brP_f (by decide)).mpr ?_
    refine (brP_t (by decide)).mpr (tsP_i (hb.1 _ _) ?_)
    rw [e_bmore (w := 1) (lit := 1) hb h hs (by omega) rfl, neg_i]
    exact qV_i (h1 (by omega) rfl (fun q hq hn => (hu q hq).2.1 hn _) rfl)
  · iterate 7 refine (brP_f (by decide)).mpr ?_
    refine (brP_t (by decide)).mpr (tsP_i (hb.1 _ _) ?_)
    rw [e_bmore (w := 1) (lit := 1) hb h hs (by omega) rfl]
    exact qV_i (h1 (by omega) rfl (fun q hq hn => (hu q hq).2.1 hn _) rfl)
  · iterate 8 refine (brP_f (by decide)).mpr ?_
    refine (brP_t (by decide)).mpr (tsP_i (hb.1 _ _) ?_)
    rw [e_bput (w := 0) (lit := 0) hb hs (by omega) rfl]
    exact qV_i (h1 (by omega) rfl (fun q hq hn => (hu q hq).1 hn _) rfl)
/-- the number by which a command is refused -/
def refV (f : Nat → S4) (s k t : Nat) (amt : Int32) : Int32 := if k = 0 then (if (f s).1 = 0 then 0 else 22) else if (f s).1 = 1 then
    (if k = 2 ∨ k = 3 then (if amt ≤ (f s).2.1 - (f s).2.2.1 then 0 else 23) else if k = 4 then (if amt ≤ (f s).2.2.1 then 0 else 23)
    else if k = 6 then (if t = s then 25 else if (f t).1 = 1 then (if amt ≤ (f s).2.1 - (f s).2.2.1 then 0 else 23) else 25)
    else if k = 8 then (if (f s).2.1 = 0 then 0 else 24) else 0) else 21
theorem refV_b {f : Nat → S4} {s k t : Nat} {amt : Int32} : refV f s k t amt = 0 ∨ refV f s k t amt = 21 ∨ refV f s k t amt = 22 ∨ refV f s k t amt = 23 ∨ refV f s k t amt = 24 ∨ refV f s k t amt = 25 := by
  unfold refV
  repeat' split
  all_goals simp
theorem z32_eN {n m : Nat} (hn : n < 1000000) (hm : m < 1000000) : z32 (n : Int) = z32 (m : Int) ↔ n = m := z32_e (by omega) (by omega)
theorem e_refusal {d : Nat} {I : IM} {D : DY} {K : Int32 → IM → Prop} {b c s kd t a : Nat} {amt : Int32} {f : Nat → S4} (hb : BB b c) (h : BN c I f) (hs : s < 8) (ht : t < 8) (hk : kd < 9) (h7 : kd ≠ 7) (ha : pKd (mm I D) a = 2) (h0 : I a 0 = z32 (kd : Int)) (h2 : I a 2 = z32 (t : Int)) :
    CI (d + 1) 50 [vR (some b), vI (z32 (s : Int)), vR (some a), vI amt] (mm I D) K ↔ K (refV f s kd t amt) I := by
  refine CI_iff (s_Bins_refusal _ _ _ _ (tsP_i (hb.1 _ _) ?_))
  rw [e_bg (w := 0) (lit := 0) hb h hs (by omega) rfl]
  refine onR_i rfl (tsP_i ha ?_)
  rw [h0]
  by_cases k0 : kd = 0
  · subst k0
    refine (brP_f (by decide)).mpr (brP_i (fun q => qI_i ⟨?_, rfl⟩) (fun q => qI_i ⟨?_, rfl⟩))
    · have q : ¬ (f s).1 = 0 := q
      simp [refV, q]
    · have q : (f s).1 = 0 := Classical.not_not.mp q
      simp [refV, q]
  refine (brP_t (by rw [z32_0, z32_inj] <;> omega)).mpr (brP_i (fun q1 => tsP_i (hb.1 _ _) ?_) (fun q1 => qI_i ⟨?_, rfl⟩))
  rotate_left
  · have q1 : ¬ (f s).1 = 1 := q1
    simp [refV, q1, k0]
  have q1 : (f s).1 = 1 := q1
  rw [e_bg (w := 1) (lit := 1) hb h hs (by omega) rfl]
  refine tsP_i (hb.1 _ _) ?_
  rw [e_bg (w := 2) (lit := 2) hb h hs (by omega) rfl]
  have hst : s4 1 (f s) = (f s).2.1 := rfl
  have hhl : s4 2 (f s) = (f s).2.2.1 := rfl
  rw [hst, hhl]
  have ets : z32 (t : Int) = z32 (s : Int) ↔ t = s := z32_eN (by omega) (by omega)
  refine brP_i (fun q2 => onR_i rfl (tsP_i ha ?_)) (fun q2 => onR_i rfl (tsP_i ha ?_))
  · rw [h0]
    obtain rfl | rfl | rfl | rfl | rfl | rfl | rfl : kd = 1 ∨ kd = 2 ∨ kd = 3 ∨ kd = 4 ∨ kd = 5 ∨ kd = 6 ∨ kd = 8 := by omega
    · repeat refine (brP_f (by decide)).mpr ?_
      exact qI_i ⟨by simp [refV, q1], rfl⟩
    · refine (brP_t (by decide)).mpr (qI_i ⟨by simp [refV, q1, q2], rfl⟩)
    · refine (brP_f (by decide)).mpr ((brP_t (by decide)).mpr (qI_i ⟨by simp [refV, q1, q2], rfl⟩))
    · refine (brP_f (by decide)).mpr ((brP_f (by decide)).mpr ((brP_t (by decide)).mpr (tsP_i (hb.1 _ _) ?_)))
      rw [e_bg (w := 2) (lit := 2) hb h hs (by omega) rfl, hhl]
      refine brP_i (fun q3 => qI_i ⟨by simp [refV, q1, q3], rfl⟩) (fun q3 => qI_i ⟨by simp [refV, q1, q3], rfl⟩)
    · iterate 3 refine (brP_f (by decide)).mpr ?_
      exact (brP_t (by decide)).mpr (qI_i ⟨by simp [refV, q1], rfl⟩)
    · iterate 4 refine (brP_f (by decide)).mpr ?_
      refine (brP_t (by decide)).mpr (onR_i rfl (tsP_i ha ?_))
      rw [h2]
      refine brP_i (fun q3 => ?_) (fun q3 => onR_i rfl (tsP_i ha (tsP_i (hb.1 _ _) ?_)))
      · have q3 := ets.mp q3
        exact qI_i ⟨by simp [refV, q1, q3], rfl⟩
      · have q3 : ¬ t = s := fun e => q3 (ets.mpr e)
        rw [h2, e_bg (w := 0) (lit := 0) hb h ht (by omega) rfl]
        refine brP_i (fun q4 => ?_) (fun q4 => ?_)
        · have q4 : (f t).1 = 1 := q4
          exact qI_i ⟨by simp [refV, q1, q2, q3, q4], rfl⟩
        · have q4 : ¬ (f t).1 = 1 := q4
          exact qI_i ⟨by simp [refV, q1, q2, q3, q4], rfl⟩
    · iterate 6 refine (brP_f (by decide)).mpr ?_
      refine (brP_t (by decide)).mpr (tsP_i (hb.1 _ _) ?_)
      rw [e_bg (w := 1) (lit := 1) hb h hs (by omega) rfl, hst]
      refine brP_i (fun q3 => qI_i ⟨by simp [refV, q1, q3], rfl⟩) (fun q3 => qI_i ⟨?_, rfl⟩)
      have q3 := Classical.not_not.mp q3
      simp [refV, q1, q3]
  · rw [h0]
    obtain rfl | rfl | rfl | rfl | rfl | rfl | rfl : kd = 1 ∨ kd = 2 ∨ kd = 3 ∨ kd = 4 ∨ kd = 5 ∨ kd = 6 ∨ kd = 8 := by omega
    · repeat refine (brP_f (by decide)).mpr ?_
      exact qI_i ⟨by simp [refV, q1], rfl⟩
    · refine (brP_t (by decide)).mpr (qI_i ⟨by simp [refV, q1, q2], rfl⟩)
    · refine (brP_f (by decide)).mpr ((brP_t (by decide)).mpr (qI_i ⟨by simp [refV, q1, q2], rfl⟩))
    · refine (brP_f (by decide)).mpr ((brP_f (by decide)).mpr ((brP_t (by decide)).mpr (tsP_i (hb.1 _ _) ?_)))
      rw [e_bg (w := 2) (lit := 2) hb h hs (by omega) rfl, hhl]
      refine brP_i (fun q3 => qI_i ⟨by simp [refV, q1, q3], rfl⟩) (fun q3 => qI_i ⟨by simp [refV, q1, q3], rfl⟩)
    · iterate 3 refine (brP_f (by decide)).mpr ?_
      exact (brP_t (by decide)).mpr (qI_i ⟨by simp [refV, q1], rfl⟩)
    · iterate 4 refine (brP_f (by decide)).mpr ?_
      refine (brP_t (by decide)).mpr (onR_i rfl (tsP_i ha ?_))
      rw [h2]
      refine brP_i (fun q3 => ?_) (fun q3 => onR_i rfl (tsP_i ha (tsP_i (hb.1 _ _) ?_)))
      · have q3 := ets.mp q3
        exact qI_i ⟨by simp [refV, q1, q3], rfl⟩
      · have q3 : ¬ t = s := fun e => q3 (ets.mpr e)
        rw [h2, e_bg (w := 0) (lit := 0) hb h ht (by omega) rfl]
        refine brP_i (fun q4 => ?_) (fun q4 => ?_)
        · have q4 : (f t).1 = 1 := q4
          exact qI_i ⟨by simp [refV, q1, q2, q3, q4], rfl⟩
        · have q4 : ¬ (f t).1 = 1 := q4
          exact qI_i ⟨by simp [refV, q1, q2, q3, q4], rfl⟩
    · iterate 6 refine (brP_f (by decide)).mpr ?_
      refine (brP_t (by decide)).mpr (tsP_i (hb.1 _ _) ?_)
      rw [e_bg (w := 1) (lit := 1) hb h hs (by omega) rfl, hst]
      refine brP_i (fun q3 => qI_i ⟨by simp [refV, q1, q3], rfl⟩) (fun q3 => qI_i ⟨?_, rfl⟩)
      have q3 := Classical.not_not.mp q3
      simp [refV, q1, q3]
/-- some cells of a row are filled with one value -/
theorem fill_loop {d : Nat} {D : DY} {Q : Option PV → PM → Prop} {c n : Nat} {v : Int32} (hk : ∀ I, pKd (mm I D) c = 20) (hl : ∀ I, pLn (mm I D) c = n) (hn : n ≤ 100000) : ∀ (g i : Nat) (I : IM), i + g = n →
    (∀ I2, (∀ q j, q ≠ c ∨ j < i ∨ n ≤ j → I2 q j = I q j) → (∀ j, i ≤ j → j < n → I2 c j = v) → Q none (mm I2 D)) → Wp GG d 10 5 [vR (some c), vI v, vI (z32 (i : Int)), vI (z32 (n : Int))] [] (mm I D) Q := by
  intro g
  induction g with
  | zero =>
    intro i I hi k
    refine s_Arrays_fill_5 _ _ _ _ ((brP_t (by rw [z32_le] <;> omega)).mpr (k I (fun _ _ _ => rfl) (fun j h1 h2 => by omega)))
  | succ g ih =>
    intro i I hi k
    refine s_Arrays_fill_5 _ _ _ _ ((brP_f (by rw [z32_le] <;> omega)).mpr (onR_i rfl (tsP_i (hk _) (tsP_i (by rw [hl]; exact inB_n (by omega) (by omega)) ?_))))
    rw [ix_n (by omega), z32_s]
    refine ih (i + 1) _ (by omega) (fun I2 h1 h2 => k I2 (fun q j hq => ?_) (fun j h3 h4 => ?_))
    · rw [h1 q j (by omega)]
      by_cases e : q = c
      · subst e
        exact up2_nj (by omega)
      · exact up2_ne e
    · by_cases e : j = i
      · subst e
        rw [h1 c j (by omega), up2_eq]
      · exact h2 j (by omega) h4
theorem c_bclear {d : Nat} {I : IM} {D : DY} {K : IM → Prop} {b c : Nat} (hb : BB b c) (k : ∀ I2, (∀ q j, q ≠ c → I2 q j = I q j) → BN c I2 (fun _ => (0, 0, 0, 0)) → K I2) : CV (d + 1) 77 [vR (some b)] (mm I D) K := by
  refine s_Bins_clear _ (tsP_i (hb.1 _ _) ?_)
  rw [hb.2.1]
  refine s_Arrays_fill _ _ (onR_i rfl (tsP_i (by rw [hb.2.2.1]; omega) ?_))
  rw [hb.2.2.2, ofNat_z]
  refine fill_loop (n := 32) (hb.2.2.1 · _) (hb.2.2.2 · _) (by omega) 32 0 I rfl (fun I2 h1 h2 => qV_i (qV_i (k I2 (fun q j hq => h1 q j (Or.inl hq)) (fun s w hs hw => ?_))))
  rw [h2 _ (by omega) (by omega)]
  obtain rfl | rfl | rfl | rfl : w = 0 ∨ w = 1 ∨ w = 2 ∨ w = 3 := by omega
  all_goals rfl
theorem e_bcopy {d : Nat} {I : IM} {D : DY} {K : IM → Prop} {b c b2 c2 : Nat} (hb : BB b c) (hb2 : BB b2 c2) : CV (d + 1) 69 [vR (some b), vR (some b2)] (mm I D) K ↔ K (cpI I c2 c 0 0 32) := by
  refine CV_iff (s_Bins_copyFrom _ _ (onR_i rfl (tsP_i (hb2.1 _ _) (tsP_i (hb.1 _ _) (tsP_i (hb.1 _ _) (onR_i (hb.2.1 _ _) (tsP_i (by rw [hb.2.2.1]; omega) (onR_i (hb2.2.1 _ _) (onR_i (hb.2.1 _ _) (tsP_i ⟨hb2.2.2.1 _ _, hb.2.2.1 _ _⟩ ?_))))))))))
  rw [hb.2.2.2, hb2.2.2.2]
  exact tsP_i (by decide) (qV_i rfl)
theorem BN.copy {c c2 : Nat} {I : IM} {f : Nat → S4} (h : BN c2 I f) : BN c (cpI I c2 c 0 0 32) f := fun s w hs hw => by
  unfold cpI
  rw [if_pos ⟨rfl, by omega, by omega⟩, show 0 + (s * 4 + w - 0) = s * 4 + w by omega]
  exact h s w hs hw
theorem cpI_ne {I : IM} {a b sp dp n q k : Nat} (h : q ≠ b) : cpI I a b sp dp n q k = I q k := if_neg (fun e => h e.1)
/-- what all that is open is worth -/
def wrV (f : Nat → S4) : List Nat → Int64 → Int64
  | [], w => w
  | s :: l, w => wrV f l (if (f s).1 = 1 then w + (f s).2.1.toInt64 * (f s).2.2.2.toInt64 else w)
