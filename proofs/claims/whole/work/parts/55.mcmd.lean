/-! The model's commands and lines. -/
theorem sq_v {α : Type} [Inhabited α] (r : PS) (X : Tx → PR α) : ∃ a0 : α, (∀ a s, sq r X = .inl (a, s) → a = a0) ∧ ∀ {β : Type} (Y : α → Tx → PR β), sq r (fun s => bnd (X s) Y) = sq (aft (sq r X)) (Y a0) := by
  rcases r with s | m
  · cases h : X s with
    | inl q =>
      obtain ⟨a, s1⟩ := q
      refine ⟨a, fun b s2 e => ?_, fun Y => ?_⟩
      · rw [sq_inl, h] at e
        cases e
        rfl
      · show bnd (X s) Y = sq (aft (X s)) (Y a)
        rw [h]
        rfl
    | inr m =>
      refine ⟨default, fun b s2 e => ?_, fun Y => ?_⟩
      · rw [sq_inl, h] at e
        cases e
      · show bnd (X s) Y = sq (aft (X s)) (Y default)
        rw [h]
        rfl
  · exact ⟨default, (fun a s e => by cases e), fun Y => rfl⟩
theorem sq_b {α β : Type} (r : PS) (X : Tx → PR α) (Y : Tx → PR β) : sq r (fun s => bnd (X s) (fun _ s => Y s)) = sq (aft (sq r X)) Y := by
  rcases r with s | m
  · show bnd (X s) _ = sq (aft (X s)) Y
    cases X s <;> rfl
  · rfl
theorem aft_m {α β : Type} (q : PR α) (f : α → β) : aft (bnd q (fun a s => (.inl (f a, s) : PR β))) = aft q := by cases q <;> rfl
/-- ' to ' and a stream -/
def toP (s : Tx) : PR Int := bnd (tkP 32 s) (fun _ s => bnd (wdP [[116, 111]] s) (fun _ s => bnd (tkP 32 s) (fun _ s => nbP 7 s)))
theorem m_to {d : Nat} {I0 I : IM} {D : DY} {K : IM → Prop} {T : Tx} {r : PS} (hW : WRD I) (h : MP I T r)
    (k : ∀ x I2, NFr I I2 → MP I2 T (aft (sq r toP)) → (∀ t s, sq r toP = .inl (t, s) → x = z32 t) → K (up2 I2 106 33 x)) :
    CV (d + 3) 176 [vR (some 106), vI 32] (mm I D) (fun I4 => CI (d + 3) 172 [vR (some 106), vI 31, vI 31] (mm I4 D) (fun _ I5 => CV (d + 3) 176 [vR (some 106), vI 32] (mm I5 D) (fun I6 => CI (d + 3) 183 [vR (some 106), vI 7] (mm I6 D) (fun x7 I7 => qV (mm I0 D) K none (mm (up2 I7 106 33 x7) D))))) := by
  have e : sq r toP = sq (aft (sq (aft (sq (aft (sq r (tkP 32))) (wdP [[116, 111]]))) (tkP 32))) (nbP 7) := by
    rw [← sq_b, ← sq_b, ← sq_b]
    rfl
  rw [e] at k
  refine m_take h (by decide) (fun I1 f1 M1 _ => ?_)
  refine m_word (lo := 31) (hi := 31) (ws := [[116, 111]]) (hW.nf f1) M1 (by omega) (by decide) (fun x2 I2 f2 M2 _ _ => ?_)
  refine m_take M2 (by decide) (fun I3 f3 M3 _ => ?_)
  refine m_number (most := 7) (by omega) (by omega) M3 (fun x I4 f4 M4 hv => ⟨_, rfl, rfl, ?_⟩)
  exact k x I4 (f1.tr (f2.tr (f3.tr f4))) M4 hv
def kc (k : Nat) : Nat := if k = 8 then 7 else k
/-- a command that was read -/
def CMM (I : IM) (sl : Nat) (cm : Cm) : Prop := I 106 31 = z32 (kc cm.1 : Int) ∧ I 106 33 = z32 (cm.2.2.1 : Int) ∧ match cm.2.2.2 with
  | none => I 106 34 = 0 ∧ I 106 32 = z32 cm.2.1
  | some c => I 106 34 = 1 ∧ FMc I sl (encV c)
/-- behind the amount -/
def tlP (k : Nat) (am : Int × Option Tx) (s : Tx) : PR Cm := bnd (cmT k s) (fun t s => .inl ((k, am.1, t.toNat, am.2), s))
theorem tl_6 (am : Int × Option Tx) (r : PS) : aft (sq r (tlP 6 am)) = aft (sq r toP) ∧ ∀ cm s, sq r (tlP 6 am) = .inl (cm, s) → ∃ t, sq r toP = .inl (t, s) ∧ cm = (6, am.1, t.toNat, am.2) := by
  rcases r with s0 | m
  · have e : tlP 6 am s0 = bnd (toP s0) (fun t s => .inl ((6, am.1, t.toNat, am.2), s)) := by
      unfold tlP cmT
      rw [if_pos rfl]
      rfl
    rw [sq_inl, sq_inl, e]
    cases toP s0 with
    | inr m => exact ⟨rfl, fun cm s q => by cases q⟩
    | inl q =>
      obtain ⟨t, s1⟩ := q
      exact ⟨rfl, fun cm s q => by cases q; exact ⟨t, rfl, rfl⟩⟩
  · exact ⟨rfl, fun cm s q => by cases q⟩
theorem tl_n {k : Nat} (am : Int × Option Tx) (r : PS) (hk : k ≠ 6) : aft (sq r (tlP k am)) = r ∧ ∀ cm s, sq r (tlP k am) = .inl (cm, s) → r = .inl s ∧ cm = (k, am.1, 0, am.2) := by
  rcases r with s0 | m
  · have e : tlP k am s0 = .inl ((k, am.1, 0, am.2), s0) := by
      unfold tlP cmT
      rw [if_neg hk]
      rfl
    rw [sq_inl, e]
    exact ⟨rfl, fun cm s q => by cases q; exact ⟨rfl, rfl⟩⟩
  · exact ⟨rfl, fun cm s q => by cases q⟩
/-- what reading a command may change -/
def RdF (sl : Nat) (I I2 : IM) : Prop := ∀ q k, ¬ ((q = 106 ∧ (3 ≤ k ∧ k ≤ 5 ∨ 9 ≤ k ∧ k ≤ 11 ∨ 31 ≤ k ∧ k ≤ 34)) ∨ (q = 109 ∧ 245 * sl ≤ k ∧ k < 245 * sl + 245) ∨ (q = 110 ∧ k = sl)) → I2 q k = I q k
theorem RdF.rf {sl : Nat} {I : IM} : RdF sl I I := fun _ _ _ => rfl
theorem RdF.tr {sl : Nat} {I I2 I3 : IM} (h : RdF sl I I2) (h2 : RdF sl I2 I3) : RdF sl I I3 := fun q k e => (h2 q k e).trans (h q k e)
theorem RdF.up {sl : Nat} {I : IM} {k : Nat} {v : Int32} (hk : 3 ≤ k ∧ k ≤ 5 ∨ 9 ≤ k ∧ k ≤ 11 ∨ 31 ≤ k ∧ k ≤ 34) : RdF sl I (up2 I 106 k v) := fun q j h => if_neg (fun e => h (Or.inl ⟨e.1, by rw [e.2]; exact hk⟩))
theorem RdF.t {sl : Nat} {I I2 : IM} (h : RdF sl I I2) (h1 : 70 ≤ sl) (h2 : sl < 80) : SFt I I2 := fun q k e => h q k (fun c => e (by unfold Sc; omega))
theorem WRD.rd {sl : Nat} {I I2 : IM} (h : WRD I) (hf : RdF sl I I2) : WRD I2 := h.fr (fun k => hf _ _ (by omega))
theorem NFr.rd {sl : Nat} {I I2 : IM} (h : NFr I I2) : RdF sl I I2 := fun q k e => h q k (fun c => e (by omega))
theorem FFr.rd {sl : Nat} {I I2 : IM} (h : FFr sl I I2) : RdF sl I I2 := fun q k e => h q k (fun c => e (by omega))
/-- behind the amount: the field is there -/
theorem m_tail {d sl : Nat} {I0 I : IM} {D : DY} {K : IM → Prop} {T : Tx} {r : PS} {k : Nat} {am : Int × Option Tx} (hW : WRD I) (h : MP I T r) (hk : k < 7) (h31 : I 106 31 = z32 (k : Int)) (h33 : I 106 33 = 0)
    (ham : ∀ s, r = .inl s → match am.2 with
      | none => I 106 34 = 0 ∧ I 106 32 = z32 am.1
      | some c => I 106 34 = 1 ∧ FMc I sl (encV c))
    (kk : ∀ I2, RdF sl I I2 → MP I2 T (aft (sq r (tlP k am))) → (∀ cm s, sq r (tlP k am) = .inl (cm, s) → CMM I2 sl cm) → K I2) :
    brP (I 106 31 = 6) (CV (d + 3) 176 [vR (some 106), vI 32] (mm I D) (fun I4 => CI (d + 3) 172 [vR (some 106), vI 31, vI 31] (mm I4 D) (fun _ I5 => CV (d + 3) 176 [vR (some 106), vI 32] (mm I5 D) (fun I6 => CI (d + 3) 183 [vR (some 106), vI 7] (mm I6 D) (fun x7 I7 => qV (mm I0 D) K none (mm (up2 I7 106 33 x7) D)))))) (qV (mm I0 D) K none (mm I D)) := by
  have e6 : (I 106 31 = 6) ↔ k = 6 := by
    rw [h31]
    show z32 (k : Int) = z32 6 ↔ _
    rw [z32_inj] <;> omega
  have kck : kc k = k := by
    unfold kc
    rw [if_neg (by omega)]
  refine brP_i (fun c => ?_) (fun c => ⟨_, rfl, rfl, ?_⟩)
  · obtain rfl := e6.mp c
    obtain ⟨t1, t2⟩ := tl_6 am r
    rw [t1] at kk
    refine m_to hW h (fun x I2 f2 M2 hv => kk _ (f2.rd.tr (RdF.up (by omega))) (M2.up (by omega)) (fun cm s q => ?_))
    obtain ⟨t, q1, rfl⟩ := t2 cm s q
    obtain rfl := hv t s q1
    have hs : ∃ s0, r = .inl s0 := by
      rcases r with s0 | m
      · exact ⟨s0, rfl⟩
      · cases q
    obtain ⟨s0, rfl⟩ := hs
    have ha := ham s0 rfl
    have ht : 0 ≤ t := by
      rw [sq_inl] at q1
      obtain ⟨_, s1, _, q1⟩ := bnd_inv q1
      obtain ⟨_, s2, _, q1⟩ := bnd_inv q1
      obtain ⟨_, s3, _, q1⟩ := bnd_inv q1
      exact (nbP_v q1).1
    refine ⟨?_, ?_, ?_⟩
    · rw [up2_nj (by omega), f2 106 31 (by omega)]
      exact h31
    · rw [up2_eq]
      show z32 t = z32 ((t.toNat : Nat) : Int)
      rw [Int.toNat_of_nonneg ht]
    · show match am.2 with
        | none => _
        | some c => _
      cases hc : am.2 with
      | none =>
        rw [hc] at ha
        rw [up2_nj (by omega), f2 106 34 (by omega), up2_nj (by omega), f2 106 32 (by omega)]
        exact ha
      | some co =>
        rw [hc] at ha
        refine ⟨?_, ?_, ha.2.2.1, fun k hk => ?_⟩
        · rw [up2_nj (by omega), f2 106 34 (by omega)]
          exact ha.1
        · rw [up2_ne (by omega), f2 110 sl (by omega)]
          exact ha.2.1
        · rw [up2_ne (by omega), f2 109 _ (by omega)]
          exact ha.2.2.2 k hk
  · have hne : k ≠ 6 := fun q => c (e6.mpr q)
    obtain ⟨t1, t2⟩ := tl_n am r hne
    rw [t1] at kk
    refine kk I RdF.rf h (fun cm s q => ?_)
    obtain ⟨rs, rfl⟩ := t2 cm s q
    refine ⟨?_, h33, ham s rs⟩
    show _ = z32 (kc k : Int)
    rw [kck]
    exact h31
/-- a command's amount, that is a number, and what follows -/
theorem m_amt {d sl : Nat} {I0 I : IM} {D : DY} {K : IM → Prop} {T : Tx} {r : PS} {k : Nat} (hW : WRD I) (h : MP I T r) (hk : k < 7) (h31 : I 106 31 = z32 (k : Int)) (h33 : I 106 33 = 0) (h34 : I 106 34 = 0)
    (kk : ∀ I2, RdF sl I I2 → MP I2 T (aft (sq r (fun s => bnd (nbP 999 s) (fun v s => tlP k (v, none) s)))) → (∀ cm s, sq r (fun s => bnd (nbP 999 s) (fun v s => tlP k (v, none) s)) = .inl (cm, s) → CMM I2 sl cm) → K I2) :
    CI (d + 3) 183 [vR (some 106), vI 999] (mm I D) (fun x3 I3 => brP ((I3 106 31) = 6)
      (CV (d + 3) 176 [vR (some 106), vI 32] (mm (up2 I3 106 32 x3) D) (fun I4 => CI (d + 3) 172 [vR (some 106), vI 31, vI 31] (mm I4 D) (fun _ I5 => CV (d + 3) 176 [vR (some 106), vI 32] (mm I5 D) (fun I6 => CI (d + 3) 183 [vR (some 106), vI 7] (mm I6 D) (fun x7 I7 => qV (mm I0 D) K none (mm (up2 I7 106 33 x7) D))))))
      (qV (mm I0 D) K none (mm (up2 I3 106 32 x3) D))) := by
  obtain ⟨v0, hv0, e0⟩ := sq_v r (nbP 999)
  rw [e0] at kk
  refine m_number (most := 999) (by omega) (by omega) h (fun x I2 f2 M2 hv => ?_)
  have f3 : RdF sl I (up2 I2 106 32 x) := f2.rd.tr (RdF.up (by omega))
  have := m_tail (d := d) (sl := sl) (I0 := I0) (D := D) (K := K) (k := k) (am := (v0, none)) (hW.rd f3) (M2.up (k := 32) (v := x) (by omega)) hk (by rw [up2_nj (by omega), f2 106 31 (by omega)]; exact h31) (by rw [up2_nj (by omega), f2 106 33 (by omega)]; exact h33)
    (fun s hs => ⟨by rw [up2_nj (by omega), f2 106 34 (by omega)]; exact h34, by
      rw [up2_eq]
      have hq : ∃ v s2, sq r (nbP 999) = .inl (v, s2) := by
        cases hq : sq r (nbP 999) with
        | inl q => exact ⟨q.1, q.2, rfl⟩
        | inr m => rw [hq] at hs; cases hs
      obtain ⟨v, s2, hq⟩ := hq
      rw [hv v s2 hq, hv0 v s2 hq]⟩) (fun I3 f4 M3 c3 => kk I3 (f3.tr f4) M3 c3)
  rw [up2_nj (by omega)] at this
  exact this
theorem CMM.sf {I I2 : IM} {sl : Nat} {cm : Cm} (h : CMM I sl cm) (hf : NFr I I2) : CMM I2 sl cm := by
  obtain ⟨h1, h2, h3⟩ := h
  refine ⟨(hf _ _ (by omega)).trans h1, (hf _ _ (by omega)).trans h2, ?_⟩
  cases hc : cm.2.2.2 with
  | none =>
    rw [hc] at h3
    exact ⟨(hf _ _ (by omega)).trans h3.1, (hf _ _ (by omega)).trans h3.2⟩
  | some c =>
    rw [hc] at h3
    exact ⟨(hf _ _ (by omega)).trans h3.1, (hf _ _ (by omega)).trans h3.2.1, h3.2.2.1, fun k hk => (hf _ _ (by omega)).trans (h3.2.2.2 k hk)⟩
theorem m_command {d sl : Nat} {I : IM} {D : DY} {K : IM → Prop} {T : Tx} {r : PS} {pol : Bool} (hW : WRD I) (hsl : 70 ≤ sl ∧ sl < 80) (h : MP I T r)
    (k : ∀ I2, RdF sl I I2 → MP I2 T (aft (sq r (cmP pol))) → (∀ cm s, sq r (cmP pol) = .inl (cm, s) → CMM I2 sl cm) → K I2) : CV (d + 70) 208 [vR (some 106), vI (b32 (pol = true)), vI (z32 (sl : Int))] (mm I D) K := by
  have fJ : RdF sl I (up2 (up2 (up2 I 106 34 0) 106 32 0) 106 33 0) := (RdF.up (by omega)).tr ((RdF.up (by omega)).tr (RdF.up (by omega)))
  have MJ : MP (up2 (up2 (up2 I 106 34 0) 106 32 0) 106 33 0) T r := ((h.up (by omega)).up (by omega)).up (by omega)
  have J34 : up2 (up2 (up2 I 106 34 0) 106 32 0) 106 33 0 106 34 = 0 := by rw [up2_nj (by omega), up2_nj (by omega), up2_eq]
  have J32 : up2 (up2 (up2 I 106 34 0) 106 32 0) 106 33 0 106 32 = 0 := by rw [up2_nj (by omega), up2_eq]
  have J33 : up2 (up2 (up2 I 106 34 0) 106 32 0) 106 33 0 106 33 = 0 := up2_eq
  refine s_M_readCommand _ _ ?_
  generalize hJ : up2 (up2 (up2 I 106 34 0) 106 32 0) 106 33 0 = J at *
  refine m_word (d := d + 67) (lo := 9) (hi := 16) (ws := verbW) (hW.rd fJ) MJ (by omega) (by decide) (fun x I1 f1 M1 hv he => ?_)
  have eC : sq r (cmP pol) = bnd (sq r (wdP verbW)) (fun k s => if k = 7 then .inl ((8, 0, 0, none), s) else bnd (tkP 32 s) (fun _ s => bnd (cmA pol s) (fun am s => tlP k am s))) := by cases r <;> rfl
  rw [eC] at k
  have fx : RdF sl I (up2 I1 106 31 x) := fJ.tr (f1.rd.tr (RdF.up (by omega)))
  cases hw : sq r (wdP verbW) with
  | inr m =>
    rw [hw] at M1 k
    have hfl : ¬ I1 106 4 < 0 := fun c => by
      obtain ⟨s, e⟩ := M1.fl.mp c
      cases e
    exact (brP_t (Int32.not_lt.mp hfl)).mpr (qV_i (k _ fx (M1.up (by omega)) (fun cm s q => by cases q)))
  | inl q =>
    obtain ⟨kd, s1⟩ := q
    rw [hw] at M1 k
    have hkd : kd < 8 := by
      rcases r with s | m
      · exact wdP_lt hw
      · cases hw
    obtain rfl := hv kd s1 hw
    have M1 : MP I1 T (.inl s1) := M1
    refine (brP_f (by rw [M1.in.2.2]; decide)).mpr (brP_i (fun c7 => ?_) (fun c7 => ?_))
    · have n7 : kd ≠ 7 := fun q => c7 (by rw [q]; rfl)
      have k7 : kd < 7 := by omega
      have e1 : bnd (.inl (kd, s1) : PR Nat) (fun k s => if k = 7 then (.inl ((8, 0, 0, none), s) : PR Cm) else bnd (tkP 32 s) (fun _ s => bnd (cmA pol s) (fun am s => tlP k am s))) = bnd (tkP 32 s1) (fun _ s => bnd (cmA pol s) (fun am s => tlP kd am s)) := by
        show (if kd = 7 then _ else _) = _
        rw [if_neg n7]
      rw [e1] at k
      refine m_take (d := d + 68) (M1.up (k := 31) (v := z32 (kd : Int)) (by omega)) (by decide) (fun I2 f2 M2 _ => ?_)
      have g31 : I2 106 31 = z32 (kd : Int) := by rw [f2 _ _ (by omega), up2_eq]
      have g33 : I2 106 33 = 0 := by rw [f2 _ _ (by omega), up2_nj (by omega), f1 _ _ (by omega), J33]
      have g34 : I2 106 34 = 0 := by rw [f2 _ _ (by omega), up2_nj (by omega), f1 _ _ (by omega), J34]
      have g32 : I2 106 32 = 0 := by rw [f2 _ _ (by omega), up2_nj (by omega), f1 _ _ (by omega), J32]
      have fI2 : RdF sl I I2 := fx.tr f2.rd
      have hW2 := hW.rd fI2
      rw [sq_inl] at M2
      cases ht : tkP 32 s1 with
      | inr m =>
        rw [ht] at M2 k
        have M2 : MP I2 T (.inr m) := M2
        have hfl : ¬ I2 106 4 < 0 := fun c => by
          obtain ⟨s, e⟩ := M2.fl.mp c
          cases e
        exact (brP_f hfl).mpr (qV_i (k _ fI2 M2 (fun cm s q => by cases q)))
      | inl us =>
        obtain ⟨u, s2⟩ := us
        rw [ht] at M2 k
        have M2 : MP I2 T (.inl s2) := M2
        have k : ∀ I2, RdF sl I I2 → MP I2 T (aft (bnd (cmA pol s2) (fun am s => tlP kd am s))) → (∀ cm s, bnd (cmA pol s2) (fun am s => tlP kd am s) = .inl (cm, s) → CMM I2 sl cm) → K I2 := k
        refine (brP_t (M2.fl.mpr ⟨s2, rfl⟩)).mpr ?_
        have num : (pol && decide (s2.head? = some 40)) = false → ∀ {I0 : IM}, CI (d + 69) 183 [vR (some 106), vI 999] (mm I2 D) (fun x3 I3 => brP ((I3 106 31) = 6)
            (CV (d + 69) 176 [vR (some 106), vI 32] (mm (up2 I3 106 32 x3) D) (fun I4 => CI (d + 69) 172 [vR (some 106), vI 31, vI 31] (mm I4 D) (fun _ I5 => CV (d + 69) 176 [vR (some 106), vI 32] (mm I5 D) (fun I6 => CI (d + 69) 183 [vR (some 106), vI 7] (mm I6 D) (fun x7 I7 => qV (mm I0 D) K none (mm (up2 I7 106 33 x7) D))))))
            (qV (mm I0 D) K none (mm (up2 I3 106 32 x3) D))) := fun hp I0 => by
          have e2 : cmA pol s2 = bnd (nbP 999 s2) (fun v s => .inl ((v, none), s)) := by
            unfold cmA
            rw [hp]
          have e3 : bnd (cmA pol s2) (fun am s => tlP kd am s) = sq (.inl s2) (fun s => bnd (nbP 999 s) (fun v s => tlP kd (v, none) s)) := by
            rw [e2]
            show _ = bnd (nbP 999 s2) _
            cases nbP 999 s2 <;> rfl
          rw [e3] at k
          exact m_amt (d := d + 66) (sl := sl) hW2 M2 k7 g31 g33 g34 (fun I3 f3 M3 c3 => k I3 (fI2.tr f3) M3 c3)
        cases hpol : pol with
        | false =>
          refine (brP_t (by decide)).mpr (num (by rw [hpol]; rfl))
        | true =>
          refine (brP_f (by decide)).mpr ?_
          rw [e_here M2]
          refine brP_i (fun c => ?_) (fun c => ?_)
          · refine num ?_
            rw [hpol]
            cases s2 with
            | nil => rfl
            | cons y t =>
              show (true && decide (some y = some 40)) = false
              rw [decide_eq_false (fun q => c (by injection q))]
              rfl
          · cases s2 with
            | nil => exact absurd c (by decide)
            | cons y t =>
              have c : y = 40 := Classical.not_not.mp c
              subst c
              refine tsP_i (inB_n (by omega) (by omega)) ?_
              rw [ix_n (by omega)]
              obtain ⟨X0, f0⟩ := mz_0 (sl := sl) (M2.up (k := 34) (v := 1) (by omega)) (by omega) 0
              have eb : bkP absV 24 0 (40 :: t) = bnd (cP absV 1 t) (fun c s => bnd (tkP 41 s) (fun _ s => .inl (c, s))) := by
                rw [bkP_40 rfl, if_neg (by omega)]
                rfl
              have e2 : cmA pol (40 :: t) = bnd (bkP absV 24 0 (40 :: t)) (fun c s => .inl (((0 : Int), some c), s)) := by
                unfold cmA
                rw [hpol, eb]
                show bnd (cP absV 1 t) _ = _
                cases cP absV 1 t with
                | inr m => rfl
                | inl q =>
                  obtain ⟨c1, s3⟩ := q
                  show bnd (tkP 41 s3) _ = bnd (bnd (tkP 41 s3) _) _
                  cases tkP 41 s3 <;> rfl
              rw [e2] at k
              have f1b : RdF sl I2 (up2 (up2 (up2 (up2 (up2 I2 106 34 1) 106 9 (z32 (sl : Int))) 110 sl 0) 106 10 0) 106 11 0) := (RdF.up (by omega)).tr (f0.rd)
              refine m_brack (d := d + 69) (vs := absV) (n := 24) (op := 0) (by omega) (by omega) (fun _ => hm_all absV 24 1 0 (by omega) (by omega) (Nat.le_refl _)) ?_ (fun s _ => ?_) X0 (by omega) (fun I3 f3 X3 o3 => ?_)
              · unfold LTm
                rw [up2_eq]
                exact Or.inl ⟨rfl, rfl⟩
              · rw [up2_nj (by omega), up2_eq]
                rfl
              · have f3b : RdF sl I I3 := fI2.tr (f1b.tr (f3.f.rd))
                rw [sq_inl] at X3 o3
                have hh : ∀ (q : PR Tx), bkP absV 24 0 (40 :: t) = q → ∃ c0 : Tx, bnd (bnd q (fun c s => (.inl (((0 : Int), some c), s) : PR (Int × Option Tx)))) (fun am s => tlP kd am s) = sq (aft q) (tlP kd (0, some c0)) ∧ ∀ c s, q = .inl (c, s) → c = c0 := fun q _ => by
                  cases q with
                  | inr m => exact ⟨[], rfl, fun c s q => by cases q⟩
                  | inl cs => exact ⟨cs.1, rfl, fun c s q => by cases q; rfl⟩
                obtain ⟨c0, e5, hc0⟩ := hh _ rfl
                rw [e5] at k
                refine m_tail (d := d + 66) (sl := sl) (k := kd) (am := (0, some c0)) (hW.rd f3b) X3.1 k7 ?_ ?_ (fun s hs => ⟨?_, ?_⟩) (fun I4 f4 M4 c4 => k I4 (f3b.tr f4) M4 c4)
                · rw [f3 106 31 (by omega), up2_nj (by omega), up2_nj (by omega), up2_ne (by omega), up2_nj (by omega), up2_nj (by omega)]
                  exact g31
                · rw [f3 106 33 (by omega), up2_nj (by omega), up2_nj (by omega), up2_ne (by omega), up2_nj (by omega), up2_nj (by omega)]
                  exact g33
                · rw [f3 106 34 (by omega), up2_nj (by omega), up2_nj (by omega), up2_ne (by omega), up2_nj (by omega), up2_eq]
                · have hq : ∃ c, bkP absV 24 0 (40 :: t) = .inl (c, s) := by
                    cases hq : bkP absV 24 0 (40 :: t) with
                    | inl q =>
                      rw [hq] at hs
                      cases hs
                      exact ⟨q.1, rfl⟩
                    | inr m => rw [hq] at hs; cases hs
                  obtain ⟨c1, hq⟩ := hq
                  have := X3.2.2.2 s hs
                  rw [hq] at this
                  rw [← hc0 c1 s hq]
                  exact this
    · have k7 : kd = 7 := by
        have c7 : z32 (kd : Int) = z32 7 := Classical.not_not.mp c7
        rw [z32_inj] at c7 <;> omega
      subst k7
      have e1 : bnd (.inl (7, s1) : PR Nat) (fun k s => if k = 7 then (.inl ((8, 0, 0, none), s) : PR Cm) else bnd (tkP 32 s) (fun _ s => bnd (cmA pol s) (fun am s => tlP k am s))) = .inl ((8, 0, 0, none), s1) := rfl
      rw [e1] at k
      refine qV_i (k _ fx (M1.up (by omega)) (fun cm s q => ?_))
      cases q
      refine ⟨up2_eq, ?_, ?_, ?_⟩
      · rw [up2_nj (by omega), f1 _ _ (by omega)]
        exact J33
      · rw [up2_nj (by omega), f1 _ _ (by omega)]
        exact J34
      · rw [up2_nj (by omega), f1 _ _ (by omega)]
        exact J32
/-! lines -/
def LNM (I : IM) (l : List LN) : Prop := I 106 37 = z32 (l.length : Int) ∧ l.length ≤ 40 ∧ ∀ i x, l[i]? = some x → I 127 i = z32 (x.1 : Int) ∧ I 128 i = z32 (kc x.2.1 : Int) ∧ I 129 i = z32 x.2.2.1 ∧ I 130 i = z32 (x.2.2.2.1 : Int)
theorem LNM.sf {I I2 : IM} {l : List LN} (h : LNM I l) (h1 : I2 106 37 = I 106 37) (h2 : ∀ q k, 127 ≤ q → q ≤ 130 → I2 q k = I q k) : LNM I2 l :=
  ⟨h1.trans h.1, h.2.1, fun i x e => by
    obtain ⟨a, b, c, d⟩ := h.2.2 i x e
    exact ⟨(h2 _ _ (by omega) (by omega)).trans a, (h2 _ _ (by omega) (by omega)).trans b, (h2 _ _ (by omega) (by omega)).trans c, (h2 _ _ (by omega) (by omega)).trans d⟩⟩
theorem wd3 {s s2 : Tx} {q : Nat} (h : wdP verbW s = .inl (q, s2)) : s2.length + 3 ≤ s.length := by
  rw [wdP_fd] at h
  have h1 := wdOf_len s
  cases hf : fdI (wdOf s) verbW with
  | none => rw [hf] at h; cases h
  | some k =>
    rw [hf] at h
    cases h
    have : ∀ (w : Tx) (l : List Tx), (∀ x ∈ l, 3 ≤ x.length) → ∀ k, fdI w l = some k → 3 ≤ w.length := by
      intro w l
      induction l with
      | nil => intro _ k h; cases h
      | cons x l ih =>
        intro hx k h
        have h : (if x = w then some 0 else (fdI w l).map (· + 1)) = some k := h
        by_cases c : x = w
        · rw [← c]
          exact hx x List.mem_cons_self
        · rw [if_neg c] at h
          cases hq : fdI w l with
          | none => rw [hq] at h; cases h
          | some j => exact ih (fun y hy => hx y (List.mem_cons_of_mem _ hy)) j hq
    have := this _ verbW (by decide) _ hf
    rw [List.length_drop]
    omega
theorem lnP_5 {s s2 : Tx} {x : LN} (h : lnP s = .inl (x, s2)) : s2.length + 5 ≤ s.length := by
  obtain ⟨v, s3, h1, h⟩ := bnd_inv h
  obtain ⟨_, s4, h2, h⟩ := bnd_inv h
  obtain ⟨c, s5, h3, h⟩ := bnd_inv h
  cases h
  have a := nbP_len h1
  have b := congrArg List.length (tkP_len h2)
  rw [List.length_cons] at b
  obtain ⟨kd, s6, h4, h5⟩ := bnd_inv h3
  have c4 := wd3 h4
  have : s2.length ≤ s6.length := by
    by_cases q : kd = 7
    · rw [if_pos q] at h5
      cases h5
      omega
    · rw [if_neg q] at h5
      obtain ⟨_, s7, h6, h5⟩ := bnd_inv h5
      obtain ⟨am, s8, h7, h5⟩ := bnd_inv h5
      obtain ⟨t, s9, h8, h5⟩ := bnd_inv h5
      cases h5
      have e6 := tkP_le h6
      have e7 := cmA_le h7
      have e8 := cmT_le h8
      omega
  omega
