/-! The memory when the constructor is done. -/
theorem cnd_t {b x y : Bool} (h : (bif b then x else y) = true) : (b = true ∧ x = true) ∨ (b = false ∧ y = true) := by
  cases b
  · exact Or.inr ⟨rfl, h⟩
  · exact Or.inl ⟨rfl, h⟩
theorem isFn_159 {a k : Nat} (h : isFn a k = true) : a < 159 := by
  refine Nat.not_le.mp fun q => ?_
  rw [isFn_new q] at h
  cases h
theorem lt80 {k n : Nat} (h : Nat.blt k n = true) (hn : n ≤ 80) : k < 80 := Nat.lt_of_lt_of_le (Nat.le_of_ble_eq_true h) hn
set_option maxHeartbeats 8000000 in
theorem isFn_80 {a k : Nat} (h : isFn a k = true) : k < 80 := by
  unfold isFn at h
  rcases cnd_t h with ⟨_, h⟩ | ⟨_, h⟩
  · cases h
  repeat' first
    | (cases h; done)
    | exact lt80 h (by decide)
    | exact Nat.lt_of_le_of_lt (Nat.le_of_eq (Nat.eq_of_beq_eq_true h)) (by decide)
    | (rw [Bool.or_eq_true] at h
       rcases h with h | h)
    | (replace h := cnd_t h
       rcases h with ⟨_, h⟩ | ⟨_, h⟩)
theorem mm_of {M : PM} {n l : Nat} (h1 : pSz M = n) (h2 : pSl M = l) (h3 : ∀ a, a < 159 → pKd M a = kdT a) (h4 : ∀ a, a < 159 → a ≠ 0 → pLn M a = lnT a) (h5 : ∀ a k, isFn a k = true → pR M a k = some (rfT a k)) : M = mm (pI M) (n, l, pKd M, pLn M, pR M, fun _ => 0) := by
  obtain ⟨z, s, kd, ln, iM, rM⟩ := M
  have h3 : ∀ a, a < 159 → kd a = kdT a := h3
  have h4 : ∀ a, a < 159 → a ≠ 0 → ln a = lnT a := h4
  have h5 : ∀ a k, isFn a k = true → rM a k = some (rfT a k) := h5
  have e1 : z = n := h1
  have e2 : s = l := h2
  clear h1 h2
  subst e1 e2
  have e1 : kd = fun a => bif Nat.ble nST a then kd a else kdT a := by
    funext a
    cases hb : Nat.ble nST a with
    | true => rfl
    | false => exact h3 a (Nat.not_le.mp fun q => by rw [Nat.ble_eq_true_of_le q] at hb; cases hb)
  have e2 : ln = fun a => bif Nat.ble nST a then ln a else (bif Nat.beq a 0 then ln 0 else lnT a) := by
    funext a
    cases hb : Nat.ble nST a with
    | true => rfl
    | false =>
      cases h0 : Nat.beq a 0 with
      | true =>
        have := Nat.eq_of_beq_eq_true h0
        subst this
        rfl
      | false => exact h4 a (Nat.not_le.mp fun q => by rw [Nat.ble_eq_true_of_le q] at hb; cases hb) (Nat.ne_of_beq_eq_false h0)
  have e3 : rM = fun a k => bif isFn a k then some (rfT a k) else rM a k := by
    funext a k
    cases hb : isFn a k with
    | true => exact h5 a k hb
    | false => rfl
  show (z, s, kd, ln, iM, rM) = (z, s, (fun a => bif Nat.ble nST a then kd a else kdT a), (fun a => bif Nat.ble nST a then ln a else (bif Nat.beq a 0 then ln 0 else lnT a)), iM, (fun a k => bif isFn a k then some (rfT a k) else rM a k))
  rw [← e1, ← e2, ← e3]
def spB (a : Nat) : Bool := Nat.beq a 160 || (Nat.beq a 190 || Nat.beq a 216)
def nrB (a : Nat) : Bool := Nat.beq a 179 || (Nat.beq a 180 || (Nat.beq a 187 || (Nat.beq a 188 || (Nat.beq a 189 || (Nat.beq a 213 || (Nat.beq a 214 || Nat.beq a 215))))))
def okQ (r : Option Nat) : Bool := match r with
  | none => true
  | some q => Nat.blt q 220 && (Nat.blt q 45 || Nat.ble 106 q)
def okU (u : UP) : Bool := match u with
  | .inr (.inl (b, _, v)) => Nat.ble 159 b && (decide (v = 0) || spB b)
  | .inr (.inr (b, _, r)) => Nat.ble 159 b && (!(nrB b) && okQ r)
  | _ => true
theorem okL : cLG1.all okU = true := by decide +kernel
theorem sz_all {M : PM} : ∀ L : List UP, pSz M ≤ pSz (apR M L)
  | [] => Nat.le_refl _
  | u :: L => by
    have h := sz_all (M := M) L
    obtain ⟨c, n⟩ | ⟨b, j, v⟩ | ⟨b, j, v⟩ := u
    · exact Nat.le_succ_of_le h
    · exact h
    · exact h
theorem z_all {M : PM} (hM : ∀ a k, 159 ≤ a → pI M a k = 0) {a k : Nat} (ha : 159 ≤ a) (hs : spB a = false) : ∀ L : List UP, L.all okU = true → pI (apR M L) a k = 0
  | [], _ => hM a k ha
  | u :: L, h => by
    rw [List.all_cons, Bool.and_eq_true] at h
    have h0 := z_all hM (k := k) ha hs L h.2
    obtain ⟨c, n⟩ | ⟨b, j, v⟩ | ⟨b, j, v⟩ := u
    · show upr _ _ _ a k = 0
      unfold upr
      split
      · rfl
      · exact h0
    · show up2 _ _ _ _ a k = 0
      unfold up2
      split
      · rename_i q
        obtain ⟨rfl, rfl⟩ := q
        have h1 : (Nat.ble 159 a && (decide (v = 0) || spB a)) = true := h.1
        rw [hs, Bool.or_false, Bool.and_eq_true] at h1
        exact of_decide_eq_true h1.2
      · exact h0
    · exact h0
theorem lo_all {M : PM} (hz : 159 ≤ pSz M) {a k : Nat} (ha : a < 159) : ∀ L : List UP, L.all okU = true → pI (apR M L) a k = pI M a k
  | [], _ => rfl
  | u :: L, h => by
    rw [List.all_cons, Bool.and_eq_true] at h
    have h0 := lo_all hz (k := k) ha L h.2
    obtain ⟨c, n⟩ | ⟨b, j, v⟩ | ⟨b, j, v⟩ := u
    · have hq := sz_all (M := M) L
      show upr _ _ _ a k = _
      unfold upr
      rw [if_neg (by omega)]
      exact h0
    · have h1 : (Nat.ble 159 b && (decide (v = 0) || spB b)) = true := h.1
      rw [Bool.and_eq_true] at h1
      have h2 := Nat.le_of_ble_eq_true h1.1
      show up2 _ _ _ _ a k = _
      unfold up2
      rw [if_neg (by omega)]
      exact h0
    · exact h0
theorem r_all {M : PM} (hM : ∀ a k, 159 ≤ a → pR M a k = none) {a k : Nat} (ha : 159 ≤ a) (hs : nrB a = true) : ∀ L : List UP, L.all okU = true → pR (apR M L) a k = none
  | [], _ => hM a k ha
  | u :: L, h => by
    rw [List.all_cons, Bool.and_eq_true] at h
    have h0 := r_all hM (k := k) ha hs L h.2
    obtain ⟨c, n⟩ | ⟨b, j, v⟩ | ⟨b, j, v⟩ := u
    · show upr _ _ _ a k = _
      unfold upr
      split
      · rfl
      · exact h0
    · exact h0
    · show up2 _ _ _ _ a k = _
      unfold up2
      split
      · rename_i q
        obtain ⟨rfl, rfl⟩ := q
        have h1 : (Nat.ble 159 a && (!(nrB a) && okQ v)) = true := h.1
        rw [hs, Bool.and_eq_true] at h1
        cases h1.2
      · exact h0
/-- each reference that was written is to a cell of the constructor's, or an old one -/
def okB (r : Option Nat) : Prop := ∀ b, r = some b → b < 220 ∧ (b < 45 ∨ 106 ≤ b)
theorem b_all {M : PM} (hM : ∀ a k, okB (pR M a k)) {a k : Nat} : ∀ L : List UP, L.all okU = true → okB (pR (apR M L) a k)
  | [], _ => hM a k
  | u :: L, h => by
    rw [List.all_cons, Bool.and_eq_true] at h
    have h0 := b_all hM (a := a) (k := k) L h.2
    obtain ⟨c, n⟩ | ⟨b, j, v⟩ | ⟨b, j, v⟩ := u
    · show okB (upr _ _ _ a k)
      unfold upr
      split
      · exact fun b hb => by cases hb
      · exact h0
    · exact h0
    · show okB (up2 _ _ _ _ a k)
      unfold up2
      split
      · intro q hq
        subst hq
        have h1 : (Nat.ble 159 b && (!(nrB b) && (Nat.blt q 220 && (Nat.blt q 45 || Nat.ble 106 q)))) = true := h.1
        rw [Bool.and_eq_true, Bool.and_eq_true, Bool.and_eq_true, Bool.or_eq_true] at h1
        exact ⟨Nat.le_of_ble_eq_true h1.2.2.1, h1.2.2.2.elim (fun z => Or.inl (Nat.le_of_ble_eq_true z)) (fun z => Or.inr (Nat.le_of_ble_eq_true z))⟩
      · exact h0
/-- the beginning -/
def m1 (L : Nat) (xs : Nat → Int32) : PM := apR (pm0 L xs) cLG1
def mS (L : Nat) (xs : Nat → Int32) : PM := renM (m1 L xs)
def iS (L : Nat) (xs : Nat → Int32) : IM := pI (mS L xs)
def dS (L : Nat) (xs : Nat → Int32) : DY := (159, pSl cMF, pKd (mS L xs), pLn (mS L xs), pR (mS L xs), fun _ => 0)
def cMR : PM := renM cMF
theorem mr3 : (List.range 159).all (fun a => Nat.beq (pKd cMR a) (kdT a)) = true := by decide +kernel
theorem mr4 : (List.range 159).all (fun a => Nat.beq a 0 || Nat.beq (pLn cMR a) (lnT a)) = true := by decide +kernel
theorem mr5 : (List.range 159).all (fun a => (List.range 80).all (fun k => !(isFn a k) || decide (pR cMR a k = some (rfT a k)))) = true := by decide +kernel
theorem mr6 : (List.range 4).all (fun c => decide (pI cMR 76 c = -1)) = true := by decide +kernel
theorem mr8 : pI cMR 46 4 = 0 := by decide +kernel
theorem ren_k {M : PM} {a : Nat} : pKd (renM M) a = pKd M (rn a) := rfl
theorem ren_n {M : PM} {a : Nat} : pLn (renM M) a = pLn M (rn a) := rfl
theorem ren_i {M : PM} {a k : Nat} : pI (renM M) a k = pI M (rn a) k := rfl
theorem ren_r {M : PM} {a k : Nat} : pR (renM M) a k = (pR M (rn a) k).map rb := rfl
section
variable {L : Nat} {xs : Nat → Int32}
theorem agS : AG (m1 L xs) cMF := (ag_pm0 L xs).apR cLG1
theorem rn_0 {a : Nat} (h : a ≠ 0) : rn a ≠ 0 := by
  unfold rn
  split
  · omega
  · split <;> omega
theorem mS_mm : mS L xs = mm (iS L xs) (dS L xs) := by
  obtain ⟨h1, h2, h3, h4, h5, h6⟩ := agS (L := L) (xs := xs)
  refine mm_of rfl h2 (fun a ha => ?_) (fun a ha h0 => ?_) (fun a k hf => ?_)
  · have e : pKd (mS L xs) a = pKd cMR a := by
      unfold mS cMR
      rw [ren_k, ren_k, h3]
    rw [e]
    exact Nat.eq_of_beq_eq_true (List.all_eq_true.mp mr3 a (List.mem_range.mpr ha))
  · have e : pLn (mS L xs) a = pLn cMR a := by
      unfold mS cMR
      rw [ren_n, ren_n, h4 (rn a) (rn_0 h0)]
    rw [e]
    have := List.all_eq_true.mp mr4 a (List.mem_range.mpr ha)
    rw [beqF h0, Bool.false_or] at this
    exact Nat.eq_of_beq_eq_true this
  · have e : pR (mS L xs) a k = pR cMR a k := by
      unfold mS cMR
      rw [ren_r, ren_r, h6]
    rw [e]
    have := List.all_eq_true.mp (List.all_eq_true.mp mr5 a (List.mem_range.mpr (isFn_159 hf))) k (List.mem_range.mpr (isFn_80 hf))
    rw [hf, Bool.not_true, Bool.false_or] at this
    exact of_decide_eq_true this
theorem rn_c {a : Nat} (h : 45 ≤ a) (h2 : a < 106) : rn a = a + 114 := if_pos ⟨h, h2⟩
theorem pm0_hi {a k : Nat} (ha : 159 ≤ a) : pI (pm0 L xs) a k = 0 ∧ pR (pm0 L xs) a k = none := by
  have b1 : Nat.blt a 45 = false := by
    cases h : Nat.blt a 45 with
    | false => rfl
    | true => exact absurd (Nat.le_of_ble_eq_true h) (by omega)
  have b2 : Nat.blt a 142 = false := by
    cases h : Nat.blt a 142 with
    | false => rfl
    | true => exact absurd (Nat.le_of_ble_eq_true h) (by omega)
  constructor
  · show (bif Nat.beq a 0 then xs k else in0 a k) = 0
    rw [beqF (show a ≠ 0 by omega)]
    unfold in0
    rw [b1, b2, beqF (show a ≠ 142 by omega), beqF (show a ≠ 143 by omega), Bool.and_false]
    rfl
  · show rf0 a k = none
    unfold rf0
    rw [b1, b2, Bool.and_false]
    rfl
theorem iS_0 {a k : Nat} (ha : 45 ≤ a) (h2 : a < 106) (hs : spB (a + 114) = false) : iS L xs a k = 0 := by
  unfold iS mS
  rw [ren_i, rn_c ha h2]
  unfold m1
  exact z_all (fun a k ha => (pm0_hi ha).1) (by omega) hs _ okL
theorem iS_lo {a k : Nat} (ha : a < 159) (h2 : a < 45 ∨ 106 ≤ a) : iS L xs a k = pI (pm0 L xs) a k := by
  unfold iS mS
  rw [ren_i, rn_lo h2 ha]
  unfold m1
  exact lo_all (Nat.le_refl _) ha _ okL
theorem dR_mk {a b : Nat} {c d : Nat → Nat} {e : Nat → Nat → Option Nat} {f : Nat → Nat} : dR (a, b, c, d, e, f) = e := rfl
theorem rS_n {a k : Nat} (ha : 45 ≤ a) (h2 : a < 106) (hs : nrB (a + 114) = true) : dR (dS L xs) a k = none := by
  have e : dR (dS L xs) = pR (mS L xs) := dR_mk
  have e2 : pR (apR (pm0 L xs) cLG1) (a + 114) k = none := r_all (fun a k ha => (pm0_hi ha).2) (by omega) hs _ okL
  rw [e]
  unfold mS m1
  rw [ren_r, rn_c ha h2, e2]
  rfl
theorem iS_ag {a k : Nat} (ha : a ≠ 0) : iS L xs a k = pI cMR a k := by
  unfold iS mS cMR
  rw [ren_i, ren_i, (agS (L := L) (xs := xs)).2.2.2.2.1 (rn a) (rn_0 ha)]
theorem dN_mk {a b : Nat} {c d : Nat → Nat} {e : Nat → Nat → Option Nat} {f : Nat → Nat} : dN (a, b, c, d, e, f) = d := rfl
theorem dS_N : dN (dS L xs) 0 = L := by
  have h : ∀ G : List UP, G.all okU = true → pLn (apR (pm0 L xs) G) 0 = L := by
    intro G
    induction G with
    | nil => intro _; rfl
    | cons u G ih =>
      intro h
      rw [List.all_cons, Bool.and_eq_true] at h
      have h0 := ih h.2
      obtain ⟨c, n⟩ | ⟨b, j, v⟩ | ⟨b, j, v⟩ := u
      · have hq : 159 ≤ _ := sz_all (M := pm0 L xs) G
        show up1 _ _ _ 0 = _
        unfold up1
        rw [if_neg (by omega)]
        exact h0
      · exact h0
      · exact h0
  have e : dN (dS L xs) = pLn (mS L xs) := dN_mk
  have e2 : pLn (mS L xs) 0 = pLn (m1 L xs) (rn 0) := ren_n
  have e3 : rn 0 = 0 := rn_lo (by decide) (by decide)
  rw [e, e2, e3]
  unfold m1
  exact h cLG1 okL
end
