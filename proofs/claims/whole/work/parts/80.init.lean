/-! The memory when the law's loop begins. -/
theorem cnd_t {b x y : Bool} (h : (bif b then x else y) = true) : (b = true ∧ x = true) ∨ (b = false ∧ y = true) := by
  cases b
  · exact Or.inr ⟨rfl, h⟩
  · exact Or.inl ⟨rfl, h⟩
theorem isFn_159 {a k : Nat} (h : isFn a k = true) : a < 159 := by
  refine Nat.not_le.mp fun q => ?_
  rw [isFn_new q] at h
  cases h
theorem lt80 {k n : Nat} (h : Nat.blt k n = true) (hn : n ≤ 80) : k < 80 := Nat.lt_of_lt_of_le (Nat.le_of_ble_eq_true h) hn
set_option maxHeartbeats 8000000 in
theorem isFn_80 {a k : Nat} (h : isFn a k = true) : k < 80 := by
  unfold isFn at h
  rcases cnd_t h with ⟨_, h⟩ | ⟨_, h⟩
  · cases h
  repeat' first
    | (cases h; done)
    | exact lt80 h (by decide)
    | exact Nat.lt_of_le_of_lt (Nat.le_of_eq (Nat.eq_of_beq_eq_true h)) (by decide)
    | (rw [Bool.or_eq_true] at h
       rcases h with h | h)
    | (replace h := cnd_t h
       rcases h with ⟨_, h⟩ | ⟨_, h⟩)
theorem mm_of {M : PM} {n l : Nat} (h1 : pSz M = n) (h2 : pSl M = l) (h3 : ∀ a, a < 159 → pKd M a = kdT a) (h4 : ∀ a, a < 159 → a ≠ 0 → pLn M a = lnT a) (h5 : ∀ a k, isFn a k = true → pR M a k = some (rfT a k)) : M = mm (pI M) (n, l, pKd M, pLn M, pR M, fun _ => 0) := by
  obtain ⟨z, s, kd, ln, iM, rM⟩ := M
  have h3 : ∀ a, a < 159 → kd a = kdT a := h3
  have h4 : ∀ a, a < 159 → a ≠ 0 → ln a = lnT a := h4
  have h5 : ∀ a k, isFn a k = true → rM a k = some (rfT a k) := h5
  have e1 : z = n := h1
  have e2 : s = l := h2
  clear h1 h2
  subst e1 e2
  have e1 : kd = fun a => bif Nat.ble nST a then kd a else kdT a := by
    funext a
    cases hb : Nat.ble nST a with
    | true => rfl
    | false => exact h3 a (Nat.not_le.mp fun q => by rw [Nat.ble_eq_true_of_le q] at hb; cases hb)
  have e2 : ln = fun a => bif Nat.ble nST a then ln a else (bif Nat.beq a 0 then ln 0 else lnT a) := by
    funext a
    cases hb : Nat.ble nST a with
    | true => rfl
    | false =>
      cases h0 : Nat.beq a 0 with
      | true =>
        have := Nat.eq_of_beq_eq_true h0
        subst this
        rfl
      | false => exact h4 a (Nat.not_le.mp fun q => by rw [Nat.ble_eq_true_of_le q] at hb; cases hb) (Nat.ne_of_beq_eq_false h0)
  have e3 : rM = fun a k => bif isFn a k then some (rfT a k) else rM a k := by
    funext a k
    cases hb : isFn a k with
    | true => exact h5 a k hb
    | false => rfl
  show (z, s, kd, ln, iM, rM) = (z, s, (fun a => bif Nat.ble nST a then kd a else kdT a), (fun a => bif Nat.ble nST a then ln a else (bif Nat.beq a 0 then ln 0 else lnT a)), iM, (fun a k => bif isFn a k then some (rfT a k) else rM a k))
  rw [← e1, ← e2, ← e3]
def okU (u : UP) : Bool := match u with
  | .inr (.inl (b, _, v)) => Nat.ble 45 b && (decide (v = 0) || spA b)
  | .inr (.inr (b, _, _)) => Nat.ble 45 b && !(nrA b)
  | _ => true
theorem okL : cLG2.all okU = true := by decide +kernel
theorem sz_all {M : PM} : ∀ L : List UP, pSz M ≤ pSz (apR M L)
  | [] => Nat.le_refl _
  | u :: L => by
    have h := sz_all (M := M) L
    obtain ⟨c, n⟩ | ⟨b, j, v⟩ | ⟨b, j, v⟩ := u
    · exact Nat.le_succ_of_le h
    · exact h
    · exact h
theorem z_all {M : PM} (hM : ∀ a k, 45 ≤ a → pI M a k = 0) {a k : Nat} (ha : 45 ≤ a) (hs : spA a = false) : ∀ L : List UP, L.all okU = true → pI (apR M L) a k = 0
  | [], _ => hM a k ha
  | u :: L, h => by
    rw [List.all_cons, Bool.and_eq_true] at h
    have h0 := z_all hM (k := k) ha hs L h.2
    obtain ⟨c, n⟩ | ⟨b, j, v⟩ | ⟨b, j, v⟩ := u
    · show upr _ _ _ a k = 0
      unfold upr
      split
      · rfl
      · exact h0
    · show up2 _ _ _ _ a k = 0
      unfold up2
      split
      · rename_i q
        obtain ⟨rfl, rfl⟩ := q
        have h1 : (Nat.ble 45 a && (decide (v = 0) || spA a)) = true := h.1
        rw [hs, Bool.or_false, Bool.and_eq_true] at h1
        exact of_decide_eq_true h1.2
      · exact h0
    · exact h0
theorem lo_all {M : PM} (hz : 45 ≤ pSz M) {a k : Nat} (ha : a < 45) : ∀ L : List UP, L.all okU = true → pI (apR M L) a k = pI M a k
  | [], _ => rfl
  | u :: L, h => by
    rw [List.all_cons, Bool.and_eq_true] at h
    have h0 := lo_all hz (k := k) ha L h.2
    obtain ⟨c, n⟩ | ⟨b, j, v⟩ | ⟨b, j, v⟩ := u
    · have hq := sz_all (M := M) L
      show upr _ _ _ a k = _
      unfold upr
      rw [if_neg (by omega)]
      exact h0
    · have h1 : (Nat.ble 45 b && (decide (v = 0) || spA b)) = true := h.1
      rw [Bool.and_eq_true] at h1
      have h2 := Nat.le_of_ble_eq_true h1.1
      show up2 _ _ _ _ a k = _
      unfold up2
      rw [if_neg (by omega)]
      exact h0
    · exact h0
theorem r_all {M : PM} (hM : ∀ a k, 45 ≤ a → pR M a k = none) {a k : Nat} (ha : 45 ≤ a) (hs : nrA a = true) : ∀ L : List UP, L.all okU = true → pR (apR M L) a k = none
  | [], _ => hM a k ha
  | u :: L, h => by
    rw [List.all_cons, Bool.and_eq_true] at h
    have h0 := r_all hM (k := k) ha hs L h.2
    obtain ⟨c, n⟩ | ⟨b, j, v⟩ | ⟨b, j, v⟩ := u
    · show upr _ _ _ a k = _
      unfold upr
      split
      · rfl
      · exact h0
    · exact h0
    · show up2 _ _ _ _ a k = _
      unfold up2
      split
      · rename_i q
        obtain ⟨rfl, rfl⟩ := q
        have h1 : (Nat.ble 45 a && !(nrA a)) = true := h.1
        rw [hs, Bool.and_eq_true] at h1
        cases h1.2
      · exact h0
/-- the beginning -/
def mS (L : Nat) (xs : Nat → Int32) : PM := apR (pm0 L xs) cLG2
def iS (L : Nat) (xs : Nat → Int32) : IM := pI (mS L xs)
def dS (L : Nat) (xs : Nat → Int32) : DY := (159, pSl cMF, pKd (mS L xs), pLn (mS L xs), pR (mS L xs), fun _ => 0)
section
variable {L : Nat} {xs : Nat → Int32}
theorem agS : AG (mS L xs) cMF := (ag_pm0 L xs).apR cLG2
theorem mS_mm : mS L xs = mm (iS L xs) (dS L xs) := by
  obtain ⟨h1, h2, h3, h4, h5, h6⟩ := agS (L := L) (xs := xs)
  refine mm_of (h1.trans mf1) h2 (fun a ha => ?_) (fun a ha h0 => ?_) (fun a k hf => ?_)
  · rw [h3]
    exact Nat.eq_of_beq_eq_true (List.all_eq_true.mp mf3 a (List.mem_range.mpr ha))
  · rw [h4 a h0]
    have := List.all_eq_true.mp mf4 a (List.mem_range.mpr ha)
    rw [beqF h0, Bool.false_or] at this
    exact Nat.eq_of_beq_eq_true this
  · rw [h6]
    have := List.all_eq_true.mp (List.all_eq_true.mp mf5 a (List.mem_range.mpr (isFn_159 hf))) k (List.mem_range.mpr (isFn_80 hf))
    rw [hf, Bool.not_true, Bool.false_or] at this
    exact of_decide_eq_true this
theorem pm0_hi {a : Nat} (ha : 45 ≤ a) : Nat.beq a 0 = false ∧ Nat.blt a 45 = false := ⟨beqF (by omega), by
  cases h : Nat.blt a 45 with
  | false => rfl
  | true => exact absurd (Nat.le_of_ble_eq_true h) (by omega)⟩
theorem iS_0 {a k : Nat} (ha : 45 ≤ a) (hs : spA a = false) : iS L xs a k = 0 := z_all (fun a k ha => by
  show (bif Nat.beq a 0 then _ else bif Nat.blt a 45 && _ then _ else _) = _
  rw [(pm0_hi ha).1, (pm0_hi ha).2]
  rfl) ha hs _ okL
theorem iS_lo {a k : Nat} (ha : a < 45) : iS L xs a k = pI (pm0 L xs) a k := lo_all (Nat.le_refl _) ha _ okL
theorem rS_n {a k : Nat} (ha : 45 ≤ a) (hs : nrA a = true) : dR (dS L xs) a k = none := r_all (fun a k ha => by
  show (bif Nat.blt a 45 && _ then _ else _) = _
  rw [(pm0_hi ha).2]
  rfl) ha hs _ okL
theorem iS_ag {a k : Nat} (ha : a ≠ 0) : iS L xs a k = pI cMF a k := congrFun ((agS (L := L) (xs := xs)).2.2.2.2.1 a ha) k
theorem dN_mk {a b : Nat} {c d : Nat → Nat} {e : Nat → Nat → Option Nat} {f : Nat → Nat} : dN (a, b, c, d, e, f) = d := rfl
theorem dS_N : dN (dS L xs) 0 = L := by
  have h : ∀ G : List UP, G.all okU = true → pLn (apR (pm0 L xs) G) 0 = L := by
    intro G
    induction G with
    | nil => intro _; rfl
    | cons u G ih =>
      intro h
      rw [List.all_cons, Bool.and_eq_true] at h
      have h0 := ih h.2
      obtain ⟨c, n⟩ | ⟨b, j, v⟩ | ⟨b, j, v⟩ := u
      · have hq : 45 ≤ _ := sz_all (M := pm0 L xs) G
        show up1 _ _ _ 0 = _
        unfold up1
        rw [if_neg (by omega)]
        exact h0
      · exact h0
      · exact h0
  have e : dN (dS L xs) = pLn (mS L xs) := dN_mk
  rw [e]
  unfold mS
  exact h cLG2 okL
def σ0 : SS := ([], fun _ => [], fun _ => [], fun _ => 0, fun _ _ => none, fun _ => none, fun _ => none, fun _ => 0, 0, 0)
def τ0 : ST := ([], σ0, none)
theorem str_p : ∀ j, j < 22 → Nat.beq (2 * j + 1) 0 = false ∧ (Nat.blt (2 * j + 1) 45 && Nat.beq ((2 * j + 1) % 2) 0) = false ∧ Nat.beq (2 * j + 2) 0 = false ∧ (Nat.blt (2 * j + 2) 45 && Nat.beq ((2 * j + 2) % 2) 0) = true ∧ (2 * j + 2) / 2 - 1 = j ∧ (Nat.blt (2 * j + 1) 45 && (Nat.beq ((2 * j + 1) % 2) 1 && Nat.beq 0 0)) = true ∧ Nat.beq ((2 * j + 1) % 2) 1 = true ∧ Nat.beq ((2 * j + 2) % 2) 1 = false ∧ Nat.blt (2 * j + 1) 45 = true ∧ Nat.blt (2 * j + 2) 45 = true := by decide +kernel
theorem pm0_s {j : Nat} (hj : j < 22) : pI (pm0 L xs) (2 * j + 1) 1 = 0 ∧ ∀ k, pI (pm0 L xs) (2 * j + 2) k = (sL j).getD k 0 := by
  obtain ⟨h1, h2, h3, h4, h5, -⟩ := str_p j hj
  refine ⟨?_, fun k => ?_⟩
  · show (bif Nat.beq (2 * j + 1) 0 then xs 1 else bif Nat.blt (2 * j + 1) 45 && Nat.beq ((2 * j + 1) % 2) 0 then (strL.getD ((2 * j + 1) / 2 - 1) []).getD 1 0 else 0) = 0
    rw [h1, h2]
    rfl
  · show (bif Nat.beq (2 * j + 2) 0 then xs k else bif Nat.blt (2 * j + 2) 45 && Nat.beq ((2 * j + 2) % 2) 0 then (strL.getD ((2 * j + 2) / 2 - 1) []).getD k 0 else 0) = (sL j).getD k 0
    rw [h3, h4, h5]
    rfl
theorem RC0 : RC τ0 (iS L xs) (dS L xs) := by
  have z : ∀ {a k : Nat}, 45 ≤ a → spA a = false → iS L xs a k = 0 := fun ha hs => iS_0 ha hs
  have n : ∀ {a k : Nat}, 45 ≤ a → nrA a = true → dR (dS L xs) a k = none := fun ha hs => rS_n ha hs
  refine ⟨Nat.le_refl _, fun j hj => ?_, ⟨(iS_ag (by decide)).trans mf8, Nat.zero_le _, fun k hk => absurd hk (Nat.not_lt_zero k), fun x hx => by cases hx⟩, z (by decide) rfl, ?_, ?_, ?_, ?_, ?_⟩
  · obtain ⟨h1, h2⟩ := pm0_s (L := L) (xs := xs) hj
    exact ⟨(iS_lo (by omega)).trans h1, fun k _ => (iS_lo (by omega)).trans (h2 k)⟩
  · refine ⟨⟨z (by decide) rfl, Nat.zero_le _, fun i e h => (by simp [zL, τ0, σ0] at h), fun s _ => z (by decide) rfl⟩, fun s w _ hw => ?_, ⟨z (by decide) rfl, fun k _ => z (by show 45 ≤ 64; decide) rfl, ⟨fun k _ => Nat.zero_le _, fun k i c _ h => by simp [zC, τ0, σ0] at h⟩, fun k i c _ h => (by simp [zC, τ0, σ0] at h), fun j b _ h => ?_⟩, fun s _ => ⟨z (by decide) rfl, Nat.zero_le _, fun j x h => by simp [zN, τ0, σ0] at h⟩, fun k _ => z (by decide) rfl, fun c hc => ?_, fun k _ => z (by decide) rfl, z (by decide) rfl, z (by decide) rfl⟩
    · refine (z (by decide) rfl).trans ?_
      show 0 = s4 w (0, 0, 0, 0)
      unfold s4
      split <;> rfl
    · rcases h with h | h
      · rw [n (by decide) rfl] at h; cases h
      · rw [n (by decide) rfl] at h; cases h
    · have := List.all_eq_true.mp mf6 c (List.mem_range.mpr hc)
      exact (iS_ag (by decide)).trans (of_decide_eq_true this)
  · intro w p hw _
    show dR (dS L xs) (73 + w + 0) p = none
    rcases (show w = 0 ∨ w = 1 by omega) with rfl | rfl
    · exact n (by decide) rfl
    · exact n (by decide) rfl
  · intro p _
    exact n (by decide) rfl
  · intro y q hy _
    rcases hy with rfl | rfl | rfl
    · exact n (by decide) rfl
    · exact n (by decide) rfl
    · exact n (by decide) rfl
  · refine ⟨fun x p y q a hx _ _ _ h _ => ?_, fun x p y q a hx _ _ _ h _ => ?_⟩
    · rcases hx with rfl | rfl | rfl | rfl <;> (rw [n (by decide) rfl] at h; cases h)
    · rcases hx with rfl | rfl <;> (rw [n (by decide) rfl] at h; cases h)
theorem RM0 : RM τ0 (iS L xs) := by
  have z : ∀ {a k : Nat}, 45 ≤ a → spA a = false → iS L xs a k = 0 := fun ha hs => iS_0 ha hs
  refine ⟨⟨z (by decide) rfl, Nat.zero_le _, fun k hk => absurd hk (Nat.not_lt_zero k), fun x hx => (by cases hx), fun s _ => ⟨0, Nat.zero_le _, z (by decide) rfl⟩⟩, fun k hk => ?_, ?_, z (by decide) rfl⟩
  · have := List.all_eq_true.mp mf7 k (List.mem_range.mpr hk)
    exact (iS_ag (by decide)).trans (of_decide_eq_true this)
  · refine ⟨⟨z (by decide) rfl, Nat.zero_le _, fun i e h => (by simp [zL, τ0, σ0] at h), fun s _ => z (by decide) rfl⟩, ⟨z (by decide) rfl, fun k _ => z (by decide) rfl, ⟨fun k _ => Nat.zero_le _, fun k i c _ h => by simp [zC, τ0, σ0] at h⟩, fun k i c _ h => by simp [zC, τ0, σ0] at h⟩, fun s _ => ⟨z (by decide) rfl, Nat.zero_le _, fun j x h => by simp [zN, τ0, σ0] at h⟩, fun k _ => z (by decide) rfl,
      ⟨fun w p _ _ => ?_, fun p _ _ => rfl⟩, fun p _ => ?_, fun c _ => ?_, fun k _ => z (by decide) rfl, z (by decide) rfl, z (by decide) rfl⟩
    · show iS L xs 135 _ = 0
      exact z (by decide) rfl
    · show iS L xs 145 _ = 0
      exact z (by decide) rfl
    · show iS L xs 155 _ = 0
      exact z (by decide) rfl
theorem WT0 : WT τ0 := ⟨⟨fun e h => (by simp [zL, tS, τ0, σ0] at h), fun i e h => (by simp [zL, tS, τ0, σ0] at h), Nat.zero_le _, rfl, fun w p x _ _ h => (by cases h), fun p x _ h => (by cases h), 0, by decide, rfl⟩, fun κ h => by cases h⟩
end
