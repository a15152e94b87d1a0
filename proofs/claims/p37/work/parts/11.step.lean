/-! One instruction of the pure machine is one of the machine. -/
def LR (Γ : CX) (y : Nat) (ls : List PV) (lk : Array Slot) : Prop := ls.length = mxL.getD y 0 ∧ lk.size = mxL.getD y 0 ∧ lv_wf lk ∧ (∀ (i : Nat) (v : PV), ls[i]? = some v → v ≠ vT → lk[i]? = some (.val (tvF Γ v))) ∧ ∀ (i : Nat) (z : Int64), ls[i]? = some (vL z) → lngT.contains (y, i) = true
def plF (Γ : CX) (ls : List PV) : List (Nat × Value) := (List.range ls.length).filterMap (fun (j : Nat) => match (ls[j]? : Option PV) with
  | some (.inl x) => some (j, tvF Γ (vI x))
  | some (.inr (.inl r)) => some (j, tvF Γ (vR r))
  | some (.inr (.inr (.inl z))) => some (j, tvF Γ (vL z))
  | _ => none)
theorem plF_in {Γ : CX} {ls : List PV} {j : Nat} {v : PV} (h : ls[j]? = some v) (hv : v ≠ vT) : (j, tvF Γ v) ∈ plF Γ ls := by
  refine List.mem_filterMap.mpr ⟨j, List.mem_range.mpr (List.getElem?_eq_some_iff.mp h).1, ?_⟩
  rw [h]
  rcases v with x | r | z | u
  · rfl
  · rfl
  · rfl
  · exact absurd rfl hv
theorem plF_of {Γ : CX} {ls : List PV} {q : Nat × Value} (h : q ∈ plF Γ ls) : ∃ v, ls[q.1]? = some v ∧ v ≠ vT ∧ q.2 = tvF Γ v := by
  obtain ⟨j, -, hj⟩ := List.mem_filterMap.mp h
  cases hl : ls[j]? with
  | none => rw [hl] at hj; cases hj
  | some v =>
    rw [hl] at hj
    rcases v with x | r | z | u
    · cases hj; exact ⟨_, hl, (fun q => by cases q), rfl⟩
    · cases hj; exact ⟨_, hl, (fun q => by cases q), rfl⟩
    · cases hj; exact ⟨_, hl, (fun q => by cases q), rfl⟩
    · cases hj
theorem cat2 {Γ : CX} {v : PV} (h : (tvF Γ v).category = 2) : ∃ z, v = vL z := by
  rcases v with x | r | z | u
  · cases h
  · cases r <;> cases h
  · exact ⟨z, rfl⟩
  · cases h
theorem cat1 {Γ : CX} {v : PV} (h : notL v = true) : (tvF Γ v).category = 1 := by
  rcases v with x | r | z | u
  · rfl
  · cases r <;> rfl
  · cases h
  · cases h
theorem LR.get {Γ : CX} {y : Nat} {ls : List PV} {lk : Array Slot} (h : LR Γ y ls lk) {i : Nat} {v : PV} (hi : ls[i]? = some v) (hv : v ≠ vT) : lk[i]? = some (.val (tvF Γ v)) := h.2.2.2.1 i v hi hv
theorem LR.has {Γ : CX} {y : Nat} {ls : List PV} {lk : Array Slot} (h : LR Γ y ls lk) : lv_has lk (mxL.getD y 0) (plF Γ ls) := by
  refine ⟨h.2.1, h.2.2.1, fun q hq => ?_⟩
  obtain ⟨v, h1, h2, h3⟩ := plF_of hq
  rw [h3]
  exact h.get h1 h2
theorem stOK_1 {y i : Nat} (h : stOK y i = true) : i < mxL.getD y 0 := by
  unfold stOK at h
  rw [Bool.and_eq_true] at h
  simpa using h.1
theorem stOK_2 {y i j : Nat} (h : stOK y i = true) (hj : j + 1 = i) : lngT.contains (y, j) = false := by
  unfold stOK at h
  rw [Bool.and_eq_true, Bool.or_eq_true] at h
  rcases h.2 with q | q
  · have : i = 0 := by simpa using q
    omega
  · have e : i - 1 = j := by omega
    rw [e] at q
    simpa using q
theorem LR.set1 {Γ : CX} {y : Nat} {ls : List PV} {lk lk' : Array Slot} (h : LR Γ y ls lk) {i : Nat} {v : PV} (hs : stOK y i = true) (hv : notL v = true)
    (hl : lv_has lk' (mxL.getD y 0) ((i, tvF Γ v) :: (plF Γ ls).filter (fun q => !(q.1 == i) && !(q.1 + 1 == i && q.2.category == 2)))) : LR Γ y (ls.set i v) lk' := by
  obtain ⟨g1, g2, g3, g4, g5⟩ := h
  refine ⟨by rw [List.length_set]; exact g1, hl.1, hl.2.1, fun j w hj hw => ?_, fun j z hj => ?_⟩
  · by_cases e : i = j
    · subst e
      have hlt : i < ls.length := by rw [g1]; exact stOK_1 hs
      rw [List.getElem?_set_self hlt] at hj
      cases hj
      exact hl.2.2 (i, tvF Γ v) List.mem_cons_self
    · rw [List.getElem?_set_ne e] at hj
      refine hl.2.2 (j, tvF Γ w) (List.mem_cons_of_mem _ (List.mem_filter.mpr ⟨plF_in hj hw, ?_⟩))
      have h1 : (j == i) = false := by simpa using (Ne.symm e)
      simp only [h1, Bool.not_false, Bool.true_and]
      cases hq : (j + 1 == i && (tvF Γ w).category == 2) with
      | false => rfl
      | true =>
        rw [Bool.and_eq_true] at hq
        obtain ⟨z, rfl⟩ := cat2 (Γ := Γ) (v := w) (by simpa using hq.2)
        have h5 := g5 j z hj
        rw [stOK_2 hs (by simpa using hq.1)] at h5
        cases h5
  · by_cases e : i = j
    · subst e
      have hlt : i < ls.length := by rw [g1]; exact stOK_1 hs
      rw [List.getElem?_set_self hlt] at hj
      cases hj
      cases hv
    · rw [List.getElem?_set_ne e] at hj
      exact g5 j z hj
theorem LR.set2 {Γ : CX} {y : Nat} {ls : List PV} {lk lk' : Array Slot} (h : LR Γ y ls lk) {i : Nat} {z : Int64} (hs : stOK y i = true) (hi : i + 1 < mxL.getD y 0) (hc : lngT.contains (y, i) = true)
    (hl : lv_has lk' (mxL.getD y 0) ((i, Value.long z) :: (plF Γ ls).filter (fun q => !(q.1 == i) && (!(q.1 == i + 1) && !(q.1 + 1 == i && q.2.category == 2))))) : LR Γ y ((ls.set i (vL z)).set (i + 1) vT) lk' := by
  obtain ⟨g1, g2, g3, g4, g5⟩ := h
  refine ⟨by rw [List.length_set, List.length_set]; exact g1, hl.1, hl.2.1, fun j w hj hw => ?_, fun j z' hj => ?_⟩
  · by_cases e1 : i + 1 = j
    · subst e1
      rw [List.getElem?_set_self (by rw [List.length_set, g1]; exact hi)] at hj
      cases hj
      exact absurd rfl hw
    · rw [List.getElem?_set_ne e1] at hj
      by_cases e : i = j
      · subst e
        rw [List.getElem?_set_self (by rw [g1]; omega)] at hj
        cases hj
        exact hl.2.2 (i, Value.long z) List.mem_cons_self
      · rw [List.getElem?_set_ne e] at hj
        refine hl.2.2 (j, tvF Γ w) (List.mem_cons_of_mem _ (List.mem_filter.mpr ⟨plF_in hj hw, ?_⟩))
        have h1 : (j == i) = false := by simpa using (Ne.symm e)
        have h2 : (j == i + 1) = false := by simpa using (Ne.symm e1)
        simp only [h1, h2, Bool.not_false, Bool.true_and]
        cases hq : (j + 1 == i && (tvF Γ w).category == 2) with
        | false => rfl
        | true =>
          rw [Bool.and_eq_true] at hq
          obtain ⟨z, rfl⟩ := cat2 (Γ := Γ) (v := w) (by simpa using hq.2)
          have h5 := g5 j z hj
          rw [stOK_2 hs (by simpa using hq.1)] at h5
          cases h5
  · by_cases e1 : i + 1 = j
    · subst e1
      rw [List.getElem?_set_self (by rw [List.length_set, g1]; exact hi)] at hj
      cases hj
    · rw [List.getElem?_set_ne e1] at hj
      by_cases e : i = j
      · subst e
        exact hc
      · rw [List.getElem?_set_ne e] at hj
        exact g5 j z' hj
theorem catsum {Γ : CX} : ∀ (st : List PV), ((st.map (tvF Γ)).map fun v => v.category).sum ≤ 2 * st.length
  | [] => Nat.le_refl _
  | v :: st => by
    have h1 := catsum (Γ := Γ) st
    have h2 : (tvF Γ v).category ≤ 2 := by
      rcases v with x | r | z | u
      · exact Nat.le_of_ble_eq_true rfl
      · cases r <;> exact Nat.le_of_ble_eq_true rfl
      · exact Nat.le_of_ble_eq_true rfl
      · exact Nat.le_of_ble_eq_true rfl
    simp only [List.map_cons, List.sum_cons, List.length_cons]
    omega
def retAt (y pc : Nat) (v : Option PV) : Prop := (decode (mCd y) pc = .ok (.ireturn, 1) ∧ ∃ x, v = some (vI x) ∧ rOk (rkL.getD y 0) x) ∨ (decode (mCd y) pc = .ok (.lreturn, 1) ∧ rkL.getD y 9 = 5 ∧ ∃ z, v = some (vL z)) ∨ (decode (mCd y) pc = .ok (.areturn, 1) ∧ rkL.getD y 9 = 6 ∧ ∃ r, v = some (vR r)) ∨ (decode (mCd y) pc = .ok (.return_, 1) ∧ rkL.getD y 9 = 0 ∧ v = none)
def callAt (y pc y' : Nat) (as : List PV) (M : PM) : Prop := as.all notL = true ∧ as.length = naL.getD y' 0 ∧ ∃ i,
  (((mcL.getD y 99, i, y') ∈ mTab ∧ decode (mCd y) pc = .ok (.invokestatic i, 3) ∧ stL.getD y' false = true) ∨
   ((mcL.getD y 99, i, y') ∈ mTab ∧ decode (mCd y) pc = .ok (.invokevirtual i, 3) ∧ stL.getD y' true = false ∧ isIni y' = false ∧ mcL.getD y' 99 < 14 ∧ ∃ a as', as = vR (some a) :: as' ∧ pKd M a = mcL.getD y' 99) ∨
   ((mcL.getD y 99, i, y') ∈ mTab ∧ decode (mCd y) pc = .ok (.invokespecial i, 3) ∧ stL.getD y' true = false ∧ isIni y' = true ∧ ∃ a as', as = vR (some a) :: as') ∨
   ((mcL.getD y 99, i, y') ∈ mTab ∧ decode (mCd y) pc = .ok (.invokevirtual i, 3) ∧ stL.getD y' true = false ∧ isIni y' = false ∧ mcL.getD y' 99 = 19 ∧ mcL.getD y 99 ≠ 12 ∧ ∃ a as', as = vR (some a) :: as' ∧ pKd M a = 12) ∨
   ((mcL.getD y 99, i, y') ∈ uTab ∧ decode (mCd y) pc = .ok (.invokevirtual i, 3) ∧ ∃ a as', as = vR (some a) :: as' ∧ pKd M a = 12) ∨
   ((mcL.getD y 99, i, y') ∈ mTab ∧ mcL.getD y 99 = 12 ∧ decode (mCd y) pc = .ok (.invokespecial i, 3) ∧ stL.getD y' true = false ∧ isIni y' = false ∧ mcL.getD y' 99 = 19 ∧ ∃ a as', as = vR (some a) :: as' ∧ pKd M a = 12))
theorem rc_mc0 : (List.range nM).all (fun y => bif Nat.beq (mcL.getD y 99) 19 then Nat.beq (rcL.getD y 99) 12 else Nat.beq (rcL.getD y 99) (mcL.getD y 99)) = true := by decide +kernel
theorem rc_19 {y : Nat} (hy : y < nM) (h : mcL.getD y 99 = 19) : rcL.getD y 99 = 12 := by
  have := List.all_eq_true.mp rc_mc0 y (List.mem_range.mpr hy)
  rw [h] at this
  exact Nat.eq_of_beq_eq_true this
theorem rc_mc {y : Nat} (hy : y < nM) (h : mcL.getD y 99 ≠ 19) : rcL.getD y 99 = mcL.getD y 99 := by
  have := List.all_eq_true.mp rc_mc0 y (List.mem_range.mpr hy)
  have h2 : Nat.beq (mcL.getD y 99) 19 = false := by
    cases hq : Nat.beq (mcL.getD y 99) 19 with
    | false => rfl
    | true => exact absurd (Nat.eq_of_beq_eq_true hq) h
  rw [h2] at this
  exact Nat.eq_of_beq_eq_true this
theorem mT_lt0 : mTab.all (fun e => Nat.blt e.2.2 nM) = true := by decide +kernel
theorem mT_lt {e : Nat × Nat × Nat} (h : e ∈ mTab) : e.2.2 < nM := by
  have := List.all_eq_true.mp mT_lt0 e h
  simpa using this
theorem uT_eq {e : Nat × Nat × Nat} (h : e ∈ uTab) : e = (13, 549, m_SB_length) := by
  have : uTab = [(13, 549, m_SB_length)] := rfl
  rw [this] at h
  simpa using h
section STEP
variable {p : Program} {l : Launch} {e : Env} {R : Room} {s : State} {m : MethodId} {args : Array Value} {below : List Frame} {meth : Method} {c : Code} {H : Heap} {locs : List Loc} {Q : State → Prop}
variable {Γ : CX} {lk : Array Slot} {M : PM}
def NXp (p : Program) (l : Launch) (e : Env) (R : Room) (s : State) (m : MethodId) (args : Array Value) (below : List Frame) (meth : Method) (c : Code) (Q : State → Prop) (Γ : CX) (y z0 l0 pc : Nat) (ls st : List PV) (M : PM) : Prop := (pSz M - z0 ≤ R.cells ∧ pSl M - l0 ≤ R.slots) ∧
  ∀ (lk : Array Slot) (H : Heap) (locs : List Loc), LR Γ y ls lk → RelM Γ M H → va_S (AF Γ) s.heap H locs → W p l e R s m args below meth c H locs (pSz M - z0) (pSl M - l0) Q (F0 m pc lk (st.map (tvF Γ)))
def RTp (p : Program) (l : Launch) (e : Env) (R : Room) (s : State) (m : MethodId) (args : Array Value) (below : List Frame) (meth : Method) (c : Code) (Q : State → Prop) (Γ : CX) (y z0 l0 : Nat) (v : Option PV) (M : PM) : Prop :=
  ∀ (pc : Nat) (lk : Array Slot) (H : Heap) (locs : List Loc), retAt y pc v → RelM Γ M H → va_S (AF Γ) s.heap H locs → W p l e R s m args below meth c H locs (pSz M - z0) (pSl M - l0) Q (F0 m pc lk (v.toList.map (tvF Γ)))
def CLp (p : Program) (l : Launch) (e : Env) (R : Room) (s : State) (m : MethodId) (args : Array Value) (below : List Frame) (meth : Method) (c : Code) (Q : State → Prop) (Γ : CX) (y z0 l0 : Nat) (y' : Nat) (as : List PV) (M : PM) (pc' : Nat) (ls' st' : List PV) : Prop :=
  ∀ (pc : Nat) (lk : Array Slot) (H : Heap) (locs : List Loc), pc' = pc + 3 → callAt y pc y' as M → st'.length ≤ 4 → LR Γ y ls' lk → RelM Γ M H → va_S (AF Γ) s.heap H locs → W p l e R s m args below meth c H locs (pSz M - z0) (pSl M - l0) Q (F0 m pc lk ((as.reverse ++ st').map (tvF Γ)))
theorem sat_ite {nx : Nat → List PV → List PV → PM → Prop} {rt : Option PV → PM → Prop} {cl : Nat → List PV → PM → Nat → List PV → List PV → Prop} {c : Prop} {i : Decidable c} {o : OUT} (h : satO nx rt cl (@ite _ c i o none)) : c ∧ satO nx rt cl o := by
  by_cases hc : c
  · rw [if_pos hc] at h
    exact ⟨hc, h⟩
  · rw [if_neg hc] at h
    exact h.elim
theorem sat_ons {nx : Nat → List PV → List PV → PM → Prop} {rt : Option PV → PM → Prop} {cl : Nat → List PV → PM → Nat → List PV → List PV → Prop} {r : Option Nat} {k : Nat → OUT} (h : satO nx rt cl (onR none r k)) : ∃ a, r = some a ∧ satO nx rt cl (k a) := by
  cases r with
  | none => exact h.elim
  | some a => exact ⟨a, rfl, h⟩
theorem sm31 (y : Int32) : (y &&& 31).toBitVec.smod 32 = y.toBitVec.smod 32 := by
  apply BitVec.eq_of_toInt_eq
  rw [BitVec.toInt_smod, BitVec.toInt_smod]
  have e1 : (y &&& 31).toBitVec.toNat = y.toBitVec.toNat % 32 := by
    show (y.toBitVec &&& 31#32).toNat = _
    rw [BitVec.toNat_and]
    exact Nat.and_two_pow_sub_one_eq_mod _ 5
  have e2 : (y &&& 31).toBitVec.toInt = ((y.toBitVec.toNat % 32 : Nat) : Int) := by
    rw [BitVec.toInt_eq_toNat_of_lt, e1]
    rw [e1]
    have := Nat.mod_lt y.toBitVec.toNat (show 0 < 32 by decide)
    show 2 * _ < 4294967296
    omega
  rw [e2]
  have e3 : (32 : BitVec 32).toInt = 32 := rfl
  rw [e3, BitVec.toInt_eq_toNat_cond]
  rw [Int.fmod_eq_emod_of_nonneg _ (by omega), Int.fmod_eq_emod_of_nonneg _ (by omega)]
  split <;> omega
theorem shl31 (x y : Int32) : x <<< (y &&& 31) = x <<< y := by
  show (⟨⟨x.toBitVec <<< ((y &&& 31).toBitVec.smod 32)⟩⟩ : Int32) = ⟨⟨x.toBitVec <<< (y.toBitVec.smod 32)⟩⟩
  rw [sm31]
theorem shr31 (x y : Int32) : x >>> (y &&& 31) = x >>> y := by
  show (⟨⟨BitVec.sshiftRight' x.toBitVec ((y &&& 31).toBitVec.smod 32)⟩⟩ : Int32) = ⟨⟨BitVec.sshiftRight' x.toBitVec (y.toBitVec.smod 32)⟩⟩
  rw [sm31]
theorem tsw_out {nx : Nat → List PV → List PV → PM → Prop} {rt : Option PV → PM → Prop} {cl : Nat → List PV → PM → Nat → List PV → List PV → Prop} {ls st : List PV} {M : PM} {x : Int32} {dflt : Nat} : ∀ (tl : List Nat) (lo : Int32), 0 ≤ lo.toInt → lo.toInt + (tl.length : Int) ≤ 1000 →
    satO nx rt cl (tsw (ρ := OUT) (fun c i a b => @ite _ c i a b) (fun t => some (.inl (t, ls, st, M))) x dflt lo tl) →
    ((x.toInt < lo.toInt ∨ lo.toInt + (tl.length : Int) ≤ x.toInt) ∧ nx dflt ls st M) ∨ (∃ k : Nat, ∃ t, x.toInt = lo.toInt + (k : Int) ∧ tl[k]? = some t ∧ nx t ls st M)
  | [], lo, _, _, h => Or.inl ⟨by simp; omega, h⟩
  | t :: tl, lo, h0, h1, h => by
    simp only [List.length_cons] at h1
    unfold tsw at h
    by_cases hc : x = lo
    · rw [if_pos hc] at h
      exact Or.inr ⟨0, t, by rw [hc]; simp, rfl, h⟩
    · rw [if_neg hc] at h
      have e1 : (lo + 1).toInt = lo.toInt + 1 := by
        have := Int32.toInt_add lo 1
        rw [this]
        show (lo.toInt + 1).bmod (2 ^ 32) = _
        rw [Int.bmod_eq_of_le (by omega) (by omega)]
      have hne : x.toInt ≠ lo.toInt := fun q => hc (Int32.toInt_inj.mp q)
      rcases tsw_out tl (lo + 1) (by omega) (by omega) h with ⟨q, z⟩ | ⟨k, t', q1, q2, q3⟩
      · refine Or.inl ⟨?_, z⟩
        simp only [List.length_cons]
        omega
      · exact Or.inr ⟨k + 1, t', by rw [q1, e1]; omega, q2, q3⟩
theorem tsw_ok {y pc n a : Nat} {z : Int32} {li : List Nat} {d0 lo hi : Int} {offs : Array Int} {ls st : List PV} {x : Int32} {z0 l0 : Nat} (hx : p.tables.exec = Jvm.exec) (hb : c.code = mCd y) (hdg : decode (mCd y) pc = .ok (.tableswitch d0 lo hi offs, n))
    (h1 : (pc : Int) + d0 = (a : Int)) (h2 : z.toInt = lo) (h3 : lo + (li.length : Int) = hi + 1) (h4 : offs.toList.map (fun q => (pc : Int) + q) = li.map (fun (t : Nat) => Int.ofNat t)) (h5 : 0 ≤ lo) (h6 : hi < 1000)
    (h : satO (NXp p l e R s m args below meth c Q Γ y z0 l0) (RTp p l e R s m args below meth c Q Γ y z0 l0) (CLp p l e R s m args below meth c Q Γ y z0 l0) (tsw (ρ := OUT) (fun c i a b => @ite _ c i a b) (fun t => some (.inl (t, ls, st, M))) x a z li)) (hLR : LR Γ y ls lk) (hM : RelM Γ M H) (hS : va_S (AF Γ) s.heap H locs) :
    W p l e R s m args below meth c H locs (pSz M - z0) (pSl M - l0) Q (F0 m pc lk (Value.int x :: st.map (tvF Γ))) := by
  rcases tsw_out li z (by omega) (by omega) h with ⟨q, hk⟩ | ⟨k, t, q1, q2, hk⟩
  · exact lv_tableOut hx hb hdg (by omega) h1 (hk.2 lk H locs hLR hM hS)
  · have hlt : k < li.length := (List.getElem?_eq_some_iff.mp q2).1
    have e1 : (offs.toList.map (fun q => (pc : Int) + q))[k]? = some (Int.ofNat t) := by rw [h4, List.getElem?_map, q2]; rfl
    rw [List.getElem?_map] at e1
    cases ho : offs.toList[k]? with
    | none => rw [ho] at e1; cases e1
    | some off =>
      rw [ho] at e1
      have e2 : (pc : Int) + off = Int.ofNat t := by simpa using e1
      refine lv_tableIn (off := off) (tgt := t) hx hb hdg (by omega) (by omega) ?_ e2 (hk.2 lk H locs hLR hM hS)
      have : (x.toInt - lo).toNat = k := by omega
      rw [this, ← Array.getElem?_toList]
      exact ho
set_option maxHeartbeats 8000000 in
theorem step_ok {y d pc : Nat} {e0 : PE} {ls st : List PV} (hp : prog y pc = some e0) (hx : p.tables.exec = Jvm.exec) (hb : c.code = mCd y) (hml : c.maxLocals = mxL.getD y 0) (hown : s.vm.findClass (cNm (mcL.getD y 99)) = some m.cls) (hE : EO Γ s) (hH : EH Γ s s.heap) (hini : isIni y = true → meth.name = "<init>") (hd1 : d ≤ R.frames) (hd2 : 60 * d ≤ R.locals) {z0 l0 : Nat}
    (h : satO (NXp p l e R s m args below meth c Q Γ y z0 l0) (RTp p l e R s m args below meth c Q Γ y z0 l0) (CLp p l e R s m args below meth c Q Γ y z0 l0) (opF XF (fun y => rcL.getD y 99) d (rkL.getD y 0) e0 pc ls st M)) (hz : z0 ≤ pSz M) (hl0 : l0 ≤ pSl M) (hLR : LR Γ y ls lk) (hM : RelM Γ M H) (hS : va_S (AF Γ) s.heap H locs) :
    W p l e R s m args below meth c H locs (pSz M - z0) (pSl M - l0) Q (F0 m pc lk (st.map (tvF Γ))) := by
  obtain ⟨n, hdg, hn, hres⟩ := ok_dec hp
  obtain ⟨i, a, b, z, li⟩ := e0
  unfold opF op at h
  unfold resOK at hres
  cases i with
  | iconst n0 =>
    dsimp only at h hres hn hdg
    have hn : n = 1 := hn.resolve_right (fun ⟨_, _, _, _, q⟩ => by cases q)
    subst hn
    exact lv_iconst hx hb hdg (of_decide_eq_true hres) (h.2 lk H locs hLR hM hS)
  | bipush n0 =>
    dsimp only at h hres hn hdg
    have hn : n = 2 := hn.resolve_right (fun ⟨_, _, _, _, q⟩ => by cases q)
    subst hn
    exact lv_bipush hx hb hdg (of_decide_eq_true hres) (h.2 lk H locs hLR hM hS)
  | sipush n0 =>
    dsimp only at h hres hn hdg
    have hn : n = 3 := hn.resolve_right (fun ⟨_, _, _, _, q⟩ => by cases q)
    subst hn
    exact lv_sipush hx hb hdg (of_decide_eq_true hres) (h.2 lk H locs hLR hM hS)
  | ldc n0 =>
    dsimp only at h hres hn hdg
    have hn : n = 2 := hn.resolve_right (fun ⟨_, _, _, _, q⟩ => by cases q)
    subst hn
    cases a with
    | zero => exact lv_ldc hx hb hown (hE.1 _ (w_kT _ (List.contains_iff_mem.mp hres)) rfl args) hdg (h.2 lk H locs hLR hM hS)
    | succ a => exact m_ldcS hx hb hown hE (List.contains_iff_mem.mp hres) hM.2.2.2.2.2.2 hdg (h.2 lk H locs hLR hM hS)
  | ldc_w n0 =>
    dsimp only at h hres hn hdg
    have hn : n = 3 := hn.resolve_right (fun ⟨_, _, _, _, q⟩ => by cases q)
    subst hn
    cases a with
    | zero => exact lv_ldcw hx hb hown (hE.1 _ (w_kT _ (List.contains_iff_mem.mp hres)) rfl args) hdg (h.2 lk H locs hLR hM hS)
    | succ a => exact m_ldcSw hx hb hown hE (List.contains_iff_mem.mp hres) hM.2.2.2.2.2.2 hdg (h.2 lk H locs hLR hM hS)
  | lconst n0 =>
    dsimp only at h hres hn hdg
    have hn : n = 1 := hn.resolve_right (fun ⟨_, _, _, _, q⟩ => by cases q)
    subst hn
    exact lv_lconst hx hb hdg (of_decide_eq_true hres) (h.2 lk H locs hLR hM hS)
  | ldc2_w n0 =>
    dsimp only at h hres hn hdg
    have hn : n = 3 := hn.resolve_right (fun ⟨_, _, _, _, q⟩ => by cases q)
    subst hn
    exact absurd (List.contains_iff_mem.mp hres) (by unfold klTab; exact List.not_mem_nil)
  | aconst_null =>
    dsimp only at h hres hn hdg
    have hn : n = 1 := hn.resolve_right (fun ⟨_, _, _, _, q⟩ => by cases q)
    subst hn
    exact lv_null hx hb hdg (h.2 lk H locs hLR hM hS)
  | iload_n k0 =>
    dsimp only at h hres hn hdg
    have hn : n = 1 := hn.resolve_right (fun ⟨_, _, _, _, q⟩ => by cases q)
    subst hn
    split at h
    · rename_i x hl
      exact lv_iload_n hx hb hdg (Nat.eq_of_beq_eq_true hres) (hLR.get hl (fun q => by cases q)) (h.2 lk H locs hLR hM hS)
    · exact h.elim
  | iload k0 =>
    dsimp only at h hres hn hdg
    have hn : n = 2 := hn.resolve_right (fun ⟨_, _, _, _, q⟩ => by cases q)
    subst hn
    split at h
    · rename_i x hl
      obtain rfl := Nat.eq_of_beq_eq_true hres
      exact lv_iload hx hb hdg (hLR.get hl (fun q => by cases q)) (h.2 lk H locs hLR hM hS)
    · exact h.elim
  | lload_n k0 =>
    dsimp only at h hres hn hdg
    have hn : n = 1 := hn.resolve_right (fun ⟨_, _, _, _, q⟩ => by cases q)
    subst hn
    split at h
    · rename_i x hl
      exact lv_lload_n hx hb hdg (Nat.eq_of_beq_eq_true hres) (hLR.get hl (fun q => by cases q)) (h.2 lk H locs hLR hM hS)
    · exact h.elim
  | lload k0 =>
    dsimp only at h hres hn hdg
    have hn : n = 2 := hn.resolve_right (fun ⟨_, _, _, _, q⟩ => by cases q)
    subst hn
    split at h
    · rename_i x hl
      obtain rfl := Nat.eq_of_beq_eq_true hres
      exact lv_lload hx hb hdg (hLR.get hl (fun q => by cases q)) (h.2 lk H locs hLR hM hS)
    · exact h.elim
  | aload_n k0 =>
    dsimp only at h hres hn hdg
    have hn : n = 1 := hn.resolve_right (fun ⟨_, _, _, _, q⟩ => by cases q)
    subst hn
    split at h
    · rename_i x hl
      cases x with
      | none => exact lv_aload_nN hx hb hdg (Nat.eq_of_beq_eq_true hres) (hLR.get hl (fun q => by cases q)) (h.2 lk H locs hLR hM hS)
      | some x => exact lv_aload_n hx hb hdg (Nat.eq_of_beq_eq_true hres) (hLR.get hl (fun q => by cases q)) (h.2 lk H locs hLR hM hS)
    · exact h.elim
  | aload k0 =>
    dsimp only at h hres hn hdg
    have hn : n = 2 := hn.resolve_right (fun ⟨_, _, _, _, q⟩ => by cases q)
    subst hn
    split at h
    · rename_i x hl
      obtain rfl := Nat.eq_of_beq_eq_true hres
      cases x with
      | none => exact lv_aloadN hx hb hdg (hLR.get hl (fun q => by cases q)) (h.2 lk H locs hLR hM hS)
      | some x => exact lv_aload hx hb hdg (hLR.get hl (fun q => by cases q)) (h.2 lk H locs hLR hM hS)
    · exact h.elim
  | istore_n k0 =>
    dsimp only at h hres hn hdg
    have hn : n = 1 := hn.resolve_right (fun ⟨_, _, _, _, q⟩ => by cases q)
    subst hn
    rw [Bool.and_eq_true] at hres
    split at h
    · rename_i x st
      exact lv_istore_n hx hb hdg (Nat.eq_of_beq_eq_true hres.1) hLR.has (stOK_1 hres.2) rfl (fun lk2 hl2 => h.2 lk2 H locs (hLR.set1 hres.2 rfl hl2) hM hS)
    · exact h.elim
  | istore k0 =>
    dsimp only at h hres hn hdg
    have hn : n = 2 := hn.resolve_right (fun ⟨_, _, _, _, q⟩ => by cases q)
    subst hn
    rw [Bool.and_eq_true] at hres
    split at h
    · rename_i x st
      obtain rfl := Nat.eq_of_beq_eq_true hres.1
      exact lv_istore hx hb hdg hLR.has (stOK_1 hres.2) rfl (fun lk2 hl2 => h.2 lk2 H locs (hLR.set1 hres.2 rfl hl2) hM hS)
    · exact h.elim
  | astore_n k0 =>
    dsimp only at h hres hn hdg
    have hn : n = 1 := hn.resolve_right (fun ⟨_, _, _, _, q⟩ => by cases q)
    subst hn
    rw [Bool.and_eq_true] at hres
    split at h
    · rename_i x st
      cases x with
      | none => exact lv_astore_nN hx hb hdg (Nat.eq_of_beq_eq_true hres.1) hLR.has (stOK_1 hres.2) rfl (fun lk2 hl2 => h.2 lk2 H locs (hLR.set1 hres.2 rfl hl2) hM hS)
      | some x => exact lv_astore_n hx hb hdg (Nat.eq_of_beq_eq_true hres.1) hLR.has (stOK_1 hres.2) rfl (fun lk2 hl2 => h.2 lk2 H locs (hLR.set1 hres.2 rfl hl2) hM hS)
    · exact h.elim
  | astore k0 =>
    dsimp only at h hres hn hdg
    have hn : n = 2 := hn.resolve_right (fun ⟨_, _, _, _, q⟩ => by cases q)
    subst hn
    rw [Bool.and_eq_true] at hres
    split at h
    · rename_i x st
      obtain rfl := Nat.eq_of_beq_eq_true hres.1
      cases x with
      | none => exact lv_astoreN hx hb hdg hLR.has (stOK_1 hres.2) rfl (fun lk2 hl2 => h.2 lk2 H locs (hLR.set1 hres.2 rfl hl2) hM hS)
      | some x => exact lv_astore hx hb hdg hLR.has (stOK_1 hres.2) rfl (fun lk2 hl2 => h.2 lk2 H locs (hLR.set1 hres.2 rfl hl2) hM hS)
    · exact h.elim
  | lstore_n k0 =>
    dsimp only at h hres hn hdg
    have hn : n = 1 := hn.resolve_right (fun ⟨_, _, _, _, q⟩ => by cases q)
    subst hn
    simp only [Bool.and_eq_true] at hres
    split at h
    · rename_i x st
      exact lv_lstore_n hx hb hdg (Nat.eq_of_beq_eq_true hres.1.1.1) hLR.has (by simpa using hres.1.2) rfl (fun lk2 hl2 => h.2 lk2 H locs (hLR.set2 hres.1.1.2 (by simpa using hres.1.2) hres.2 hl2) hM hS)
    · exact h.elim
  | lstore k0 =>
    dsimp only at h hres hn hdg
    have hn : n = 2 := hn.resolve_right (fun ⟨_, _, _, _, q⟩ => by cases q)
    subst hn
    simp only [Bool.and_eq_true] at hres
    split at h
    · rename_i x st
      obtain rfl := Nat.eq_of_beq_eq_true hres.1.1.1
      exact lv_lstore hx hb hdg hLR.has (by simpa using hres.1.2) rfl (fun lk2 hl2 => h.2 lk2 H locs (hLR.set2 hres.1.1.2 (by simpa using hres.1.2) hres.2 hl2) hM hS)
    · exact h.elim
  | iinc k0 n0 =>
    dsimp only at h hres hn hdg
    have hn : n = 3 := hn.resolve_right (fun ⟨_, _, _, _, q⟩ => by cases q)
    subst hn
    simp only [Bool.and_eq_true, decide_eq_true_eq] at hres
    split at h
    · rename_i x hl
      obtain rfl := Nat.eq_of_beq_eq_true hres.1.1
      obtain ⟨kk, hkk⟩ := List.getElem?_of_mem (plF_in (Γ := Γ) hl (fun q => by cases q))
      exact lv_iinc hx hb hdg hLR.has hkk (by rw [hres.2]) (stOK_1 hres.1.2) rfl (fun lk2 hl2 => h.2 lk2 H locs (hLR.set1 hres.1.2 rfl hl2) hM hS)
    · exact h.elim
  | iadd =>
    dsimp only at h hres hn hdg
    have hn : n = 1 := hn.resolve_right (fun ⟨_, _, _, _, q⟩ => by cases q)
    subst hn
    split at h
    · exact lv_iadd hx hb hdg (h.2 lk H locs hLR hM hS)
    · exact h.elim
  | isub =>
    dsimp only at h hres hn hdg
    have hn : n = 1 := hn.resolve_right (fun ⟨_, _, _, _, q⟩ => by cases q)
    subst hn
    split at h
    · exact lv_isub hx hb hdg (h.2 lk H locs hLR hM hS)
    · exact h.elim
  | imul =>
    dsimp only at h hres hn hdg
    have hn : n = 1 := hn.resolve_right (fun ⟨_, _, _, _, q⟩ => by cases q)
    subst hn
    split at h
    · exact lv_imul hx hb hdg (h.2 lk H locs hLR hM hS)
    · exact h.elim
  | iand =>
    dsimp only at h hres hn hdg
    have hn : n = 1 := hn.resolve_right (fun ⟨_, _, _, _, q⟩ => by cases q)
    subst hn
    split at h
    · exact lv_iand hx hb hdg (h.2 lk H locs hLR hM hS)
    · exact h.elim
  | ior =>
    dsimp only at h hres hn hdg
    have hn : n = 1 := hn.resolve_right (fun ⟨_, _, _, _, q⟩ => by cases q)
    subst hn
    split at h
    · exact lv_ior hx hb hdg (h.2 lk H locs hLR hM hS)
    · exact h.elim
  | ishl =>
    dsimp only at h hres hn hdg
    have hn : n = 1 := hn.resolve_right (fun ⟨_, _, _, _, q⟩ => by cases q)
    subst hn
    split at h
    · exact lv_ishl hx hb hdg (by rw [shl31]; exact h.2 lk H locs hLR hM hS)
    · exact h.elim
  | ishr =>
    dsimp only at h hres hn hdg
    have hn : n = 1 := hn.resolve_right (fun ⟨_, _, _, _, q⟩ => by cases q)
    subst hn
    split at h
    · exact lv_ishr hx hb hdg (by rw [shr31]; exact h.2 lk H locs hLR hM hS)
    · exact h.elim
  | ladd =>
    dsimp only at h hres hn hdg
    have hn : n = 1 := hn.resolve_right (fun ⟨_, _, _, _, q⟩ => by cases q)
    subst hn
    split at h
    · exact lv_ladd hx hb hdg (h.2 lk H locs hLR hM hS)
    · exact h.elim
  | lsub =>
    dsimp only at h hres hn hdg
    have hn : n = 1 := hn.resolve_right (fun ⟨_, _, _, _, q⟩ => by cases q)
    subst hn
    split at h
    · exact lv_lsub hx hb hdg (h.2 lk H locs hLR hM hS)
    · exact h.elim
  | lmul =>
    dsimp only at h hres hn hdg
    have hn : n = 1 := hn.resolve_right (fun ⟨_, _, _, _, q⟩ => by cases q)
    subst hn
    split at h
    · exact lv_lmul hx hb hdg (h.2 lk H locs hLR hM hS)
    · exact h.elim
  | land =>
    dsimp only at h hres hn hdg
    have hn : n = 1 := hn.resolve_right (fun ⟨_, _, _, _, q⟩ => by cases q)
    subst hn
    split at h
    · exact lv_land hx hb hdg (h.2 lk H locs hLR hM hS)
    · exact h.elim
  | iushr =>
    dsimp only at h hres hn hdg
    have hn : n = 1 := hn.resolve_right (fun ⟨_, _, _, _, q⟩ => by cases q)
    subst hn
    split at h
    · exact lv_iushr hx hb hdg rfl (h.2 lk H locs hLR hM hS)
    · exact h.elim
  | ineg =>
    dsimp only at h hres hn hdg
    have hn : n = 1 := hn.resolve_right (fun ⟨_, _, _, _, q⟩ => by cases q)
    subst hn
    split at h
    · exact lv_ineg hx hb hdg (h.2 lk H locs hLR hM hS)
    · exact h.elim
  | lneg =>
    dsimp only at h hres hn hdg
    have hn : n = 1 := hn.resolve_right (fun ⟨_, _, _, _, q⟩ => by cases q)
    subst hn
    split at h
    · exact lv_lneg hx hb hdg (h.2 lk H locs hLR hM hS)
    · exact h.elim
  | i2l =>
    dsimp only at h hres hn hdg
    have hn : n = 1 := hn.resolve_right (fun ⟨_, _, _, _, q⟩ => by cases q)
    subst hn
    split at h
    · exact lv_i2l hx hb hdg rfl (h.2 lk H locs hLR hM hS)
    · exact h.elim
  | l2i =>
    dsimp only at h hres hn hdg
    have hn : n = 1 := hn.resolve_right (fun ⟨_, _, _, _, q⟩ => by cases q)
    subst hn
    split at h
    · exact lv_l2i hx hb hdg rfl (h.2 lk H locs hLR hM hS)
    · exact h.elim
  | i2c =>
    dsimp only at h hres hn hdg
    have hn : n = 1 := hn.resolve_right (fun ⟨_, _, _, _, q⟩ => by cases q)
    subst hn
    split at h
    · exact lv_i2c hx hb hdg rfl (h.2 lk H locs hLR hM hS)
    · exact h.elim
  | i2b =>
    dsimp only at h hres hn hdg
    have hn : n = 1 := hn.resolve_right (fun ⟨_, _, _, _, q⟩ => by cases q)
    subst hn
    split at h
    · exact lv_i2b hx hb hdg rfl (h.2 lk H locs hLR hM hS)
    · exact h.elim
  | idiv =>
    dsimp only at h hres hn hdg
    have hn : n = 1 := hn.resolve_right (fun ⟨_, _, _, _, q⟩ => by cases q)
    subst hn
    split at h
    · obtain ⟨hne, h⟩ := sat_ite h
      exact lv_idiv hx hb hdg hne (h.2 lk H locs hLR hM hS)
    · exact h.elim
  | irem =>
    dsimp only at h hres hn hdg
    have hn : n = 1 := hn.resolve_right (fun ⟨_, _, _, _, q⟩ => by cases q)
    subst hn
    split at h
    · obtain ⟨hne, h⟩ := sat_ite h
      exact lv_irem hx hb hdg hne (h.2 lk H locs hLR hM hS)
    · exact h.elim
  | ldiv =>
    dsimp only at h hres hn hdg
    have hn : n = 1 := hn.resolve_right (fun ⟨_, _, _, _, q⟩ => by cases q)
    subst hn
    split at h
    · obtain ⟨hne, h⟩ := sat_ite h
      exact lv_ldiv hx hb hdg hne (h.2 lk H locs hLR hM hS)
    · exact h.elim
  | lrem =>
    dsimp only at h hres hn hdg
    have hn : n = 1 := hn.resolve_right (fun ⟨_, _, _, _, q⟩ => by cases q)
    subst hn
    split at h
    · obtain ⟨hne, h⟩ := sat_ite h
      exact lv_lrem hx hb hdg hne (h.2 lk H locs hLR hM hS)
    · exact h.elim
  | lcmp =>
    dsimp only at h hres hn hdg
    have hn : n = 1 := hn.resolve_right (fun ⟨_, _, _, _, q⟩ => by cases q)
    subst hn
    split at h
    · exact W.lcmp hx hb hdg (h.2 lk H locs hLR hM hS)
    · exact h.elim
  | ifCond cd off =>
    dsimp only at h hres hn hdg
    have hn : n = 3 := hn.resolve_right (fun ⟨_, _, _, _, q⟩ => by cases q)
    subst hn
    split at h
    · cases cd with
      | eq =>
        refine lv_if_eq hx hb hdg (of_decide_eq_true hres) (fun hc => ?_) (fun hc => ?_)
        · rw [show (@ite OUT (cOk .eq _ _) (cDec .eq _ _) _ _) = _ from if_pos hc] at h
          exact h.2 lk H locs hLR hM hS
        · rw [show (@ite OUT (cOk .eq _ _) (cDec .eq _ _) _ _) = _ from if_neg hc] at h
          exact h.2 lk H locs hLR hM hS
      | ne =>
        refine lv_if_ne hx hb hdg (of_decide_eq_true hres) (fun hc => ?_) (fun hc => ?_)
        · rw [show (@ite OUT (cOk .ne _ _) (cDec .ne _ _) _ _) = _ from if_pos hc] at h
          exact h.2 lk H locs hLR hM hS
        · rw [show (@ite OUT (cOk .ne _ _) (cDec .ne _ _) _ _) = _ from if_neg (fun q => q hc)] at h
          exact h.2 lk H locs hLR hM hS
      | lt =>
        refine lv_if_lt hx hb hdg (of_decide_eq_true hres) (fun hc => ?_) (fun hc => ?_)
        · rw [show (@ite OUT (cOk .lt _ _) (cDec .lt _ _) _ _) = _ from if_pos hc] at h
          exact h.2 lk H locs hLR hM hS
        · rw [show (@ite OUT (cOk .lt _ _) (cDec .lt _ _) _ _) = _ from if_neg hc] at h
          exact h.2 lk H locs hLR hM hS
      | ge =>
        refine lv_if_ge hx hb hdg (of_decide_eq_true hres) (fun hc => ?_) (fun hc => ?_)
        · rw [show (@ite OUT (cOk .ge _ _) (cDec .ge _ _) _ _) = _ from if_pos hc] at h
          exact h.2 lk H locs hLR hM hS
        · rw [show (@ite OUT (cOk .ge _ _) (cDec .ge _ _) _ _) = _ from if_neg hc] at h
          exact h.2 lk H locs hLR hM hS
      | gt =>
        refine lv_if_gt hx hb hdg (of_decide_eq_true hres) (fun hc => ?_) (fun hc => ?_)
        · rw [show (@ite OUT (cOk .gt _ _) (cDec .gt _ _) _ _) = _ from if_pos hc] at h
          exact h.2 lk H locs hLR hM hS
        · rw [show (@ite OUT (cOk .gt _ _) (cDec .gt _ _) _ _) = _ from if_neg hc] at h
          exact h.2 lk H locs hLR hM hS
      | le =>
        refine lv_if_le hx hb hdg (of_decide_eq_true hres) (fun hc => ?_) (fun hc => ?_)
        · rw [show (@ite OUT (cOk .le _ _) (cDec .le _ _) _ _) = _ from if_pos hc] at h
          exact h.2 lk H locs hLR hM hS
        · rw [show (@ite OUT (cOk .le _ _) (cDec .le _ _) _ _) = _ from if_neg hc] at h
          exact h.2 lk H locs hLR hM hS
    · exact h.elim
  | if_icmp cd off =>
    dsimp only at h hres hn hdg
    have hn : n = 3 := hn.resolve_right (fun ⟨_, _, _, _, q⟩ => by cases q)
    subst hn
    split at h
    · cases cd with
      | eq =>
        refine lv_icmp_eq hx hb hdg (of_decide_eq_true hres) (fun hc => ?_) (fun hc => ?_)
        · rw [show (@ite OUT (cOk .eq _ _) (cDec .eq _ _) _ _) = _ from if_pos hc] at h
          exact h.2 lk H locs hLR hM hS
        · rw [show (@ite OUT (cOk .eq _ _) (cDec .eq _ _) _ _) = _ from if_neg hc] at h
          exact h.2 lk H locs hLR hM hS
      | ne =>
        refine lv_icmp_ne hx hb hdg (of_decide_eq_true hres) (fun hc => ?_) (fun hc => ?_)
        · rw [show (@ite OUT (cOk .ne _ _) (cDec .ne _ _) _ _) = _ from if_pos hc] at h
          exact h.2 lk H locs hLR hM hS
        · rw [show (@ite OUT (cOk .ne _ _) (cDec .ne _ _) _ _) = _ from if_neg (fun q => q hc)] at h
          exact h.2 lk H locs hLR hM hS
      | lt =>
        refine lv_icmp_lt hx hb hdg (of_decide_eq_true hres) (fun hc => ?_) (fun hc => ?_)
        · rw [show (@ite OUT (cOk .lt _ _) (cDec .lt _ _) _ _) = _ from if_pos hc] at h
          exact h.2 lk H locs hLR hM hS
        · rw [show (@ite OUT (cOk .lt _ _) (cDec .lt _ _) _ _) = _ from if_neg hc] at h
          exact h.2 lk H locs hLR hM hS
      | ge =>
        refine lv_icmp_ge hx hb hdg (of_decide_eq_true hres) (fun hc => ?_) (fun hc => ?_)
        · rw [show (@ite OUT (cOk .ge _ _) (cDec .ge _ _) _ _) = _ from if_pos hc] at h
          exact h.2 lk H locs hLR hM hS
        · rw [show (@ite OUT (cOk .ge _ _) (cDec .ge _ _) _ _) = _ from if_neg hc] at h
          exact h.2 lk H locs hLR hM hS
      | gt =>
        refine lv_icmp_gt hx hb hdg (of_decide_eq_true hres) (fun hc => ?_) (fun hc => ?_)
        · rw [show (@ite OUT (cOk .gt _ _) (cDec .gt _ _) _ _) = _ from if_pos hc] at h
          exact h.2 lk H locs hLR hM hS
        · rw [show (@ite OUT (cOk .gt _ _) (cDec .gt _ _) _ _) = _ from if_neg hc] at h
          exact h.2 lk H locs hLR hM hS
      | le =>
        refine lv_icmp_le hx hb hdg (of_decide_eq_true hres) (fun hc => ?_) (fun hc => ?_)
        · rw [show (@ite OUT (cOk .le _ _) (cDec .le _ _) _ _) = _ from if_pos hc] at h
          exact h.2 lk H locs hLR hM hS
        · rw [show (@ite OUT (cOk .le _ _) (cDec .le _ _) _ _) = _ from if_neg hc] at h
          exact h.2 lk H locs hLR hM hS
    · exact h.elim
  | ifnull off =>
    dsimp only at h hres hn hdg
    have hn : n = 3 := hn.resolve_right (fun ⟨_, _, _, _, q⟩ => by cases q)
    subst hn
    split at h
    · rename_i r st
      cases r with
      | none =>
        rw [if_pos rfl] at h
        exact lv_ifnullN hx hb hdg (of_decide_eq_true hres) (h.2 lk H locs hLR hM hS)
      | some r =>
        rw [if_neg (fun q => by cases q)] at h
        exact lv_ifnull hx hb hdg (h.2 lk H locs hLR hM hS)
    · exact h.elim
  | ifnonnull off =>
    dsimp only at h hres hn hdg
    have hn : n = 3 := hn.resolve_right (fun ⟨_, _, _, _, q⟩ => by cases q)
    subst hn
    split at h
    · rename_i r st
      cases r with
      | none =>
        rw [if_pos rfl] at h
        exact lv_ifnonnullN hx hb hdg (h.2 lk H locs hLR hM hS)
      | some r =>
        rw [if_neg (fun q => by cases q)] at h
        exact lv_ifnonnull hx hb hdg (of_decide_eq_true hres) (h.2 lk H locs hLR hM hS)
    · exact h.elim
  | goto off =>
    dsimp only at h hres hn hdg
    have hn : n = 3 := hn.resolve_right (fun ⟨_, _, _, _, q⟩ => by cases q)
    subst hn
    exact lv_goto hx hb hdg (of_decide_eq_true hres) (h.2 lk H locs hLR hM hS)
  | tableswitch d0 lo hi offs =>
    dsimp only at h hres hn hdg
    simp only [Bool.and_eq_true, decide_eq_true_eq] at hres
    split at h
    · rename_i x st
      exact tsw_ok hx hb hdg hres.1.1.1.1.1 hres.1.1.1.1.2 hres.1.1.1.2 hres.1.1.2 hres.1.2 hres.2 h hLR hM hS
    · exact h.elim
  | dup =>
    dsimp only at h hres hn hdg
    have hn : n = 1 := hn.resolve_right (fun ⟨_, _, _, _, q⟩ => by cases q)
    subst hn
    split at h
    · exact lv_dup hx hb hdg rfl (h.2 lk H locs hLR hM hS)
    · rename_i r st
      cases r with
      | none => exact lv_dup hx hb hdg rfl (h.2 lk H locs hLR hM hS)
      | some r => exact lv_dup hx hb hdg rfl (h.2 lk H locs hLR hM hS)
    · exact h.elim
  | dup2 =>
    dsimp only at h hres hn hdg
    have hn : n = 1 := hn.resolve_right (fun ⟨_, _, _, _, q⟩ => by cases q)
    subst hn
    split at h
    · rename_i x r st
      cases r with
      | none => exact lv_dup2_11 hx hb hdg rfl rfl (h.2 lk H locs hLR hM hS)
      | some r => exact lv_dup2_11 hx hb hdg rfl rfl (h.2 lk H locs hLR hM hS)
    · exact h.elim
  | pop =>
    dsimp only at h hres hn hdg
    have hn : n = 1 := hn.resolve_right (fun ⟨_, _, _, _, q⟩ => by cases q)
    subst hn
    split at h
    · exact lv_pop hx hb hdg rfl (h.2 lk H locs hLR hM hS)
    · rename_i r st
      cases r with
      | none => exact lv_pop hx hb hdg rfl (h.2 lk H locs hLR hM hS)
      | some r => exact lv_pop hx hb hdg rfl (h.2 lk H locs hLR hM hS)
    · exact h.elim
  | getfield i0 =>
    dsimp only at h hres hn hdg
    have hn : n = 3 := hn.resolve_right (fun ⟨_, _, _, _, q⟩ => by cases q)
    subst hn
    simp only [Bool.and_eq_true] at hres
    split at h
    · rename_i r st
      obtain ⟨a0, rfl, h⟩ := sat_ons h
      obtain ⟨hk, h⟩ := sat_ite h
      have hlt : a < 14 := by simpa using hres.2
      have hb2 : b < nfL.getD a 0 := by simpa using hres.1.2
      have hmem := List.contains_iff_mem.mp hres.1.1
      have hnx : NXp p l e R s m args below meth c Q Γ y z0 l0 (pc + 3) ls ((if XF.2 a b = 1 then vR (pR M a0 b) else vI (pI M a0 b)) :: st) M := by
        split at h
        · rename_i hq
          rw [if_pos hq]
          exact h
        · rename_i hq
          rw [if_neg hq]
          exact h
      have hval : tvF Γ (if XF.2 a b = 1 then vR (pR M a0 b) else vI (pI M a0 b)) = teF Γ M a0 a b := by
        unfold teF
        split
        · rename_i hq
          rw [hq]
          rfl
        · rename_i hq
          split
          · rename_i hq2
            exact absurd hq2 hq
          · rfl
      have hkk := hnx.2 lk H locs hLR hM hS
      rw [List.map_cons, hval] at hkk
      by_cases h13 : a < 13
      · exact m_get hx hb hown hE hM hk hlt (hM.nw13 (by omega)) hb2 hmem hdg hkk
      · have e13 : a = 13 := by omega
        subst e13
        rcases hM.str hk with ⟨hn, -⟩ | ⟨j, hj, ea⟩
        · exact m_get hx hb hown hE hM hk hlt hn hb2 hmem hdg hkk
        · by_cases hk2 : b < 2
          · exact m_getS hx hb hown hE hH hM hS hj ea hk2 hmem hdg hkk
          · have : fTab.all (fun t => bif Nat.beq t.2.2.1 13 then Nat.blt t.2.2.2 2 else true) = true := by decide +kernel
            have := List.all_eq_true.mp this _ hmem
            simp at this
            omega
    · exact h.elim
  | putfield i0 =>
    dsimp only at h hres hn hdg
    have hn : n = 3 := hn.resolve_right (fun ⟨_, _, _, _, q⟩ => by cases q)
    subst hn
    simp only [Bool.and_eq_true, Bool.or_eq_true, Bool.not_eq_true'] at hres
    obtain ⟨⟨⟨hm0, hb0⟩, hk0⟩, hf0⟩ := hres
    have h14 : a < 14 := by
      rcases hk0 with q | q
      · have : a < 13 := by simpa using q
        omega
      · have := Nat.eq_of_beq_eq_true q.1
        omega
    have hb2 : b < nfL.getD a 0 := by simpa using hb0
    have hmem := List.contains_iff_mem.mp hm0
    have hfin : (fnL.getD a []).getD b true = false ∨ (meth.name = "<init>" ∧ mcL.getD y 99 = a) := by
      rcases hf0 with q | q
      · exact Or.inl q
      · exact Or.inr ⟨hini q.1, Nat.eq_of_beq_eq_true q.2⟩
    have hnil : li = [] → a < 13 := fun e => by
      rcases hk0 with q | q
      · simpa using q
      · rw [e] at q
        exact absurd q.2 (by simp)
    split at h
    · rename_i v r st
      obtain ⟨a0, rfl, h⟩ := sat_ons h
      obtain ⟨hk, h⟩ := sat_ite h
      have hput : ∀ hnw : nwP Γ a0, XF.2 a b = 1 → NXp p l e R s m args below meth c Q Γ y z0 l0 (pc + 3) ls st (setR M a0 b v) → W p l e R s m args below meth c H locs (pSz M - z0) (pSl M - l0) Q (F0 m pc lk ((vR v :: vR (some a0) :: st).map (tvF Γ))) := fun hnw hq h => by
        refine m_put (M' := setR M a0 b v) hx hb hown hE hM hS hk h14 hnw hb2 hmem hfin rfl rfl rfl (fun _ _ _ => rfl) (fun b' j hj => ?_) ?_ (Or.inr (Or.inr (Or.inl ⟨hq, _, rfl⟩))) hdg (fun H1 locs1 hM1 hS1 => h.2 lk H1 locs1 hLR hM1 hS1)
        · show up2 (pR M) a0 b v b' j = _
          unfold up2
          rw [if_neg (by omega)]
        · unfold teF
          rw [hq]
          show va_rf ((up2 (pR M) a0 b v a0 b).map (adF Γ)) = _
          unfold up2
          rw [if_pos ⟨rfl, rfl⟩]
          rfl
      split at h
      · rename_i hq
        split at h
        · exact hput (hM.nw13 (by rw [hk]; exact hnil rfl)) hq h
        · obtain ⟨h159, h⟩ := sat_ite h
          exact hput (nw159 h159) hq h
      · exact h.elim
    · rename_i v r st
      obtain ⟨a0, rfl, h⟩ := sat_ons h
      obtain ⟨hk, h⟩ := sat_ite h
      have hup : ∀ b' j, b' ≠ a0 ∨ j ≠ b → pI (setI M a0 b v) b' j = pI M b' j := fun b' j hj => by
        show up2 (pI M) a0 b v b' j = _
        unfold up2
        rw [if_neg (by omega)]
      have hte : XF.2 a b ≠ 1 → teF Γ (setI M a0 b v) a0 a b = .int v := fun hq => by
        unfold teF
        split
        · rename_i q
          exact absurd q hq
        · show Value.int (up2 (pI M) a0 b v a0 b) = _
          unfold up2
          rw [if_pos ⟨rfl, rfl⟩]
      have hn13 : ∀ q : XF.2 a b = 0 ∨ XF.2 a b = 2, nwP Γ a0 := fun q => by
        refine hM.nw13 ?_
        rw [hk]
        refine Nat.not_le.mp fun q2 => ?_
        have e13 : a = 13 := by omega
        subst e13
        have : fTab.all (fun t => bif Nat.beq t.2.2.1 13 then Nat.blt t.2.2.2 2 else true) = true := by decide +kernel
        have := List.all_eq_true.mp this _ hmem
        simp at this
        rcases (by omega : b = 0 ∨ b = 1) with rfl | rfl <;> rcases q with q | q <;> exact absurd q (by decide)
      split at h
      · rename_i hq
        exact m_put (M' := setI M a0 b v) hx hb hown hE hM hS hk h14 (hn13 (Or.inl hq)) hb2 hmem hfin rfl rfl rfl hup (fun _ _ _ => rfl) (hte (by rw [hq]; decide)) (Or.inl ⟨hq, _, rfl⟩) hdg (fun H1 locs1 hM1 hS1 => h.2 lk H1 locs1 hLR hM1 hS1)
      · rename_i hq
        obtain ⟨hv, h⟩ := sat_ite h
        exact m_put (M' := setI M a0 b v) hx hb hown hE hM hS hk h14 (hn13 (Or.inr hq)) hb2 hmem hfin rfl rfl rfl hup (fun _ _ _ => rfl) (hte (by rw [hq]; decide)) (Or.inr (Or.inl ⟨hq, by rcases hv with rfl | rfl; exact Or.inl rfl; exact Or.inr rfl⟩)) hdg (fun H1 locs1 hM1 hS1 => h.2 lk H1 locs1 hLR hM1 hS1)
      · rename_i hq
        obtain ⟨hv, h⟩ := sat_ite h
        have hput : ∀ hnw : nwP Γ a0, NXp p l e R s m args below meth c Q Γ y z0 l0 (pc + 3) ls st (setI M a0 b v) → W p l e R s m args below meth c H locs (pSz M - z0) (pSl M - l0) Q (F0 m pc lk ((vI v :: vR (some a0) :: st).map (tvF Γ))) := fun hnw h =>
          m_put (M' := setI M a0 b v) hx hb hown hE hM hS hk h14 hnw hb2 hmem hfin rfl rfl rfl hup (fun _ _ _ => rfl) (hte (by rw [hq]; decide)) (Or.inr (Or.inr (Or.inr ⟨hq, _, rfl, hv⟩))) hdg (fun H1 locs1 hM1 hS1 => h.2 lk H1 locs1 hLR hM1 hS1)
        split at h
        · exact hput (hM.nw13 (by rw [hk]; exact hnil rfl)) h
        · obtain ⟨h159, h⟩ := sat_ite h
          exact hput (nw159 h159) h
      · exact h.elim
    · exact h.elim
  | getstatic i0 =>
    dsimp only at h hres hn hdg
    have hn : n = 3 := hn.resolve_right (fun ⟨_, _, _, _, q⟩ => by cases q)
    subst hn
    have hG := hM.2.2.2.2.2.2
    have hdig : ∀ w, w < 2 → (mcL.getD y 99, i0, w + 1) ∈ gsTab → NXp p l e R s m args below meth c Q Γ y z0 l0 (pc + 3) ls (vR (some (142 + w)) :: st) M → W p l e R s m args below meth c H locs (pSz M - z0) (pSl M - l0) Q (F0 m pc lk (st.map (tvF Γ))) := fun w hw hmem h => by
      have hk := h.2 lk H locs hLR hM hS
      have e1 : tvF Γ (vR (some (142 + w))) = .ref (cxA Γ (142 + w)) := by
        show Value.ref (adF Γ _) = _
        rw [adF_old (by omega) (by omega) hG]
      rw [List.map_cons, e1] at hk
      exact va_gets hx hb (hH.2.2.2.2.2.2 w hw).1 hS hown (hE.1 _ (w_gsT _ hmem) rfl args) (fun _ h => h) hdg hk
    cases a with
    | zero =>
      dsimp only at h hres
      simp only [Bool.and_eq_true, decide_eq_true_eq] at hres
      rw [hres.2] at h
      exact va_gets hx hb hH.2.1 hS hown (hE.1 _ (w_gsT _ (List.contains_iff_mem.mp hres.1)) rfl args) (fun _ h => h) hdg (h.2 lk H locs hLR hM hS)
    | succ a =>
      cases a with
      | zero =>
        dsimp only at h hres
        simp only [Bool.and_eq_true] at hres
        obtain rfl : b = 142 := Nat.eq_of_beq_eq_true hres.2
        exact hdig 0 (by decide) (List.contains_iff_mem.mp hres.1) h
      | succ a =>
        dsimp only at h hres
        simp only [Bool.and_eq_true] at hres
        obtain rfl : b = 143 := Nat.eq_of_beq_eq_true hres.2
        exact hdig 1 (by decide) (List.contains_iff_mem.mp hres.1) h
  | iaload =>
    dsimp only at h hres hn hdg
    have hn : n = 1 := hn.resolve_right (fun ⟨_, _, _, _, q⟩ => by cases q)
    subst hn
    rw [Bool.or_eq_true] at hres
    rcases hres with q | q
    · obtain rfl : a = 20 := Nat.eq_of_beq_eq_true q
      split at h
      · rename_i i r st
        obtain ⟨a0, rfl, h⟩ := sat_ons h
        obtain ⟨hk, h⟩ := sat_ite h
        obtain ⟨hi, h⟩ := sat_ite h
        exact m_ald hx hb hE hM hk hi hdg (h.2 lk H locs hLR hM hS)
      · exact h.elim
    · obtain rfl : a = 19 := Nat.eq_of_beq_eq_true q
      split at h
      · rename_i i r st
        obtain ⟨a0, rfl, h⟩ := sat_ons h
        obtain ⟨hk, h⟩ := sat_ite h
        obtain ⟨hi, h⟩ := sat_ite h
        exact m_alds hx hb hH hM hS hk hi hdg (h.2 lk H locs hLR hM hS)
      · exact h.elim
  | baload =>
    dsimp only at h hres hn hdg
    have hn : n = 1 := hn.resolve_right (fun ⟨_, _, _, _, q⟩ => by cases q)
    subst hn
    split at h
    · rename_i i r st
      obtain ⟨a0, rfl, h⟩ := sat_ons h
      obtain ⟨hk, h⟩ := sat_ite h
      obtain ⟨hi, h⟩ := sat_ite h
      exact m_bald hx hb hE hH hM hS hk hi hdg (h.2 lk H locs hLR hM hS)
    · exact h.elim
  | iastore =>
    dsimp only at h hres hn hdg
    have hn : n = 1 := hn.resolve_right (fun ⟨_, _, _, _, q⟩ => by cases q)
    subst hn
    split at h
    · rename_i v i r st
      obtain ⟨a0, rfl, h⟩ := sat_ons h
      obtain ⟨hk, h⟩ := sat_ite h
      obtain ⟨hi, h⟩ := sat_ite h
      exact m_ast hx hb hE hM hS hk hi hdg (fun H1 locs1 hM1 hS1 => h.2 lk H1 locs1 hLR hM1 hS1)
    · exact h.elim
  | bastore =>
    dsimp only at h hres hn hdg
    have hn : n = 1 := hn.resolve_right (fun ⟨_, _, _, _, q⟩ => by cases q)
    subst hn
    split at h
    · rename_i v i r st
      obtain ⟨a0, rfl, h⟩ := sat_ons h
      obtain ⟨hk, h⟩ := sat_ite h
      obtain ⟨hi, h⟩ := sat_ite h
      exact m_bast hx hb hE hM hS hk.1 hk.2 hi hdg (fun H1 locs1 hM1 hS1 => h.2 lk H1 locs1 hLR hM1 hS1)
    · exact h.elim
  | aaload =>
    dsimp only at h hres hn hdg
    have hn : n = 1 := hn.resolve_right (fun ⟨_, _, _, _, q⟩ => by cases q)
    subst hn
    split at h
    · rename_i i r st
      cases a with
      | zero =>
        dsimp only at h
        obtain ⟨a0, rfl, h⟩ := sat_ons h
        obtain ⟨hk, h⟩ := sat_ite h
        obtain ⟨hi, h⟩ := sat_ite h
        exact m_aldq hx hb hE hM ⟨hk.1, by omega⟩ hi hdg (h.2 lk H locs hLR hM hS)
      | succ a =>
        dsimp only at h
        obtain ⟨a0, rfl, h⟩ := sat_ons h
        obtain ⟨hk, h⟩ := sat_ite h
        obtain ⟨hi, h⟩ := sat_ite h
        have h2 : a + 1 = 26 ∨ a + 1 = 27 := by
          simp only [Bool.or_eq_true] at hres
          rcases hres with q | q | q
          · exact absurd (Nat.eq_of_beq_eq_true q) (by omega)
          · exact Or.inl (Nat.eq_of_beq_eq_true q)
          · exact Or.inr (Nat.eq_of_beq_eq_true q)
        exact m_aldq hx hb hE hM ⟨by omega, by omega⟩ hi hdg (h.2 lk H locs hLR hM hS)
    · exact h.elim
  | aastore =>
    dsimp only at h hres hn hdg
    have hn : n = 1 := hn.resolve_right (fun ⟨_, _, _, _, q⟩ => by cases q)
    subst hn
    split at h
    · rename_i v i r st
      cases a with
      | zero =>
        dsimp only at h
        obtain ⟨a0, rfl, h⟩ := sat_ons h
        obtain ⟨hk, h⟩ := sat_ite h
        obtain ⟨hi, h⟩ := sat_ite h
        obtain ⟨hv, h⟩ := sat_ite h
        exact m_astq hx hb hE hH hM hS ⟨hk.1, by omega⟩ hi hv hdg (fun H1 locs1 hM1 hS1 => h.2 lk H1 locs1 hLR hM1 hS1)
      | succ a =>
        dsimp only at h
        obtain ⟨a0, e1, h⟩ := sat_ons h
        obtain ⟨b0, e2, h⟩ := sat_ons h
        subst e1 e2
        obtain ⟨hk, h⟩ := sat_ite h
        obtain ⟨hi, h⟩ := sat_ite h
        exact m_astq (v := some b0) hx hb hE hH hM hS ⟨by omega, by omega⟩ hi (fun b hb => by cases hb; rw [hk.1, hk.2]; rfl) hdg (fun H1 locs1 hM1 hS1 => h.2 lk H1 locs1 hLR hM1 hS1)
    · exact h.elim
  | arraylength =>
    dsimp only at h hres hn hdg
    have hn : n = 1 := hn.resolve_right (fun ⟨_, _, _, _, q⟩ => by cases q)
    subst hn
    split at h
    · rename_i r st
      obtain ⟨a0, rfl, h⟩ := sat_ons h
      obtain ⟨hk, h⟩ := sat_ite h
      exact m_alen hx hb hE hH hM hS hk hdg (h.2 lk H locs hLR hM hS)
    · exact h.elim
  | newarray t0 =>
    dsimp only at h hres hn hdg
    have hn : n = 2 := hn.resolve_right (fun ⟨_, _, _, _, q⟩ => by cases q)
    subst hn
    split at h
    · rename_i n0 st
      cases a with
      | zero =>
        dsimp only at h hres
        obtain rfl : t0 = .int := of_decide_eq_true hres
        obtain ⟨hn0, h⟩ := sat_ite h
        have g1 : pSz (mkN M kInt (ixN n0)) - z0 = pSz M - z0 + 1 := by show pSz M + 1 - z0 = _; omega
        have g2 : pSl (mkN M kInt (ixN n0)) - l0 = pSl M - l0 + ixN n0 := by show pSl M + ixN n0 - l0 = _; omega
        have hB := h.1
        rw [g1, g2] at hB
        refine m_newi hx hb hE hM hS hn0.1 hn0.2 hB.1 hB.2 hdg (fun H1 hM1 hS1 => ?_)
        have hk := h.2 lk H1 locs hLR hM1 hS1
        rw [g1, g2] at hk
        exact hk
      | succ a =>
        dsimp only at h hres
        obtain rfl : t0 = .byte := of_decide_eq_true hres
        obtain ⟨hn0, h⟩ := sat_ite h
        have g1 : pSz (mkN M kByt (ixN n0)) - z0 = pSz M - z0 + 1 := by show pSz M + 1 - z0 = _; omega
        have g2 : pSl (mkN M kByt (ixN n0)) - l0 = pSl M - l0 + ixN n0 := by show pSl M + ixN n0 - l0 = _; omega
        have hB := h.1
        rw [g1, g2] at hB
        refine m_newb hx hb hE hM hS hn0.1 hn0.2 hB.1 hB.2 hdg (fun H1 hM1 hS1 => ?_)
        have hk := h.2 lk H1 locs hLR hM1 hS1
        rw [g1, g2] at hk
        exact hk
    · exact h.elim
  | multianewarray i0 d0 =>
    dsimp only at h hres hn hdg
    have hn : n = 4 := hn.resolve_right (fun ⟨_, _, _, _, q⟩ => by cases q)
    subst hn
    simp only [Bool.and_eq_true] at hres
    have e1 : mcL.getD y 99 = 18 := Nat.eq_of_beq_eq_true hres.1.1
    obtain rfl : i0 = 37 := Nat.eq_of_beq_eq_true hres.1.2
    obtain rfl : d0 = 2 := Nat.eq_of_beq_eq_true hres.2
    rw [e1] at hown
    split at h
    · rename_i k0 n0 st
      obtain ⟨hn0, h⟩ := sat_ite h
      have g1 : pSz (mkG M (ixN n0) (ixN k0)) - z0 = pSz M - z0 + 1 + ixN n0 := by show pSz M + (1 + ixN n0) - z0 = _; omega
      have g2 : pSl (mkG M (ixN n0) (ixN k0)) - l0 = pSl M - l0 + ixN n0 + ixN n0 * ixN k0 := by show pSl M + (ixN n0 + ixN n0 * ixN k0) - l0 = _; omega
      have hB := h.1
      rw [g1, g2] at hB
      refine m_mna hx hb hown hE hM hS hn0.1 hn0.2.1 hn0.2.2.1 hn0.2.2.2 (by omega) (by omega) hdg (fun H1 hM1 hS1 => ?_)
      have hk := h.2 lk H1 locs hLR hM1 hS1
      rw [g1, g2] at hk
      exact hk
    · exact h.elim
  | anewarray i0 =>
    dsimp only at h hres hn hdg
    have hn : n = 3 := hn.resolve_right (fun ⟨_, _, _, _, q⟩ => by cases q)
    subst hn
    simp only [Bool.and_eq_true] at hres
    split at h
    · rename_i n0 st
      obtain ⟨hn0, h⟩ := sat_ite h
      have g1 : pSz (mkN M a (ixN n0)) - z0 = pSz M - z0 + 1 := by show pSz M + 1 - z0 = _; omega
      have g2 : pSl (mkN M a (ixN n0)) - l0 = pSl M - l0 + ixN n0 := by show pSl M + ixN n0 - l0 = _; omega
      have hB := h.1
      rw [g1, g2] at hB
      refine m_newq hx hb hown hE hM hS ⟨Nat.le_of_ble_eq_true hres.1.2, by simpa using hres.2⟩ (List.contains_iff_mem.mp hres.1.1) hn0.1 hn0.2 hB.1 hB.2 hdg (fun H1 hM1 hS1 => ?_)
      have hk := h.2 lk H1 locs hLR hM1 hS1
      rw [g1, g2] at hk
      exact hk
    · exact h.elim
  | new i0 =>
    dsimp only at h hres hn hdg
    have hn : n = 3 := hn.resolve_right (fun ⟨_, _, _, _, q⟩ => by cases q)
    subst hn
    simp only [Bool.and_eq_true] at hres
    have g1 : pSz (mkN M a (XF.1 a)) - z0 = pSz M - z0 + 1 := by show pSz M + 1 - z0 = _; omega
    have g2 : pSl (mkN M a (XF.1 a)) - l0 = pSl M - l0 + XF.1 a := by show pSl M + XF.1 a - l0 = _; omega
    have hB := h.1
    rw [g1, g2] at hB
    refine m_new hx hb hown hE hM hS (by simpa using hres.2) (List.contains_iff_mem.mp hres.1) hB.1 hB.2 hdg (fun H1 hM1 hS1 => ?_)
    have hk := h.2 lk H1 locs hLR hM1 hS1
    rw [g1, g2] at hk
    exact hk
  | invokespecial i0 =>
    dsimp only at h hres hn hdg
    have hn : n = 3 := hn.resolve_right (fun ⟨_, _, _, _, q⟩ => by cases q)
    subst hn
    cases b with
    | zero =>
      dsimp only at h hres
      split at h
      · rename_i d0 r st
        split at h
        · rename_i hq
          obtain ⟨a0, rfl, h⟩ := sat_ons h
          have hq4 := Nat.le_of_ble_eq_true hq
          have hcs := catsum (Γ := Γ) st
          exact W.objInit hx hb hown (hE.1 _ (w_oiT _ (List.contains_iff_mem.mp hres)) rfl args) (hE.1 _ w_oiI rfl args) (hE.1 _ w_oiC rfl args) rfl (by rw [hml]; exact hLR.2.1) rfl hdg (by omega) (by show 2 * 0 + _ + 12 ≤ _; omega) (h.2 lk H locs hLR hM hS)
        · exact h.elim
      · exact h.elim
    | succ nn =>
      dsimp only at h hres
      simp only [Bool.and_eq_true, Bool.not_eq_true', Bool.or_eq_true] at hres
      split at h
      · rename_i hok
        split at h
        · rename_i r st2 hst
          split at h
          · rename_i hq
            obtain ⟨a0, rfl, h⟩ := sat_ons h
            obtain ⟨hk, h⟩ := sat_ite h
            unfold okC at hok
            rw [Bool.and_eq_true] at hok
            have hlen : (st.take nn).length = nn := Nat.eq_of_beq_eq_true hok.1
            have hsp : st = st.take nn ++ (vR (some a0) :: st2) := by rw [← hst, List.take_append_drop]
            have hmem := List.contains_iff_mem.mp hres.1.1.1
            have hk2 := h pc lk H locs rfl ⟨by simpa [notL] using hok.2, by rw [List.length_cons, List.length_reverse, hlen]; exact (Nat.eq_of_beq_eq_true hres.1.1.2).symm, i0, by
              rcases hres.2 with q | q
              · exact Or.inr (Or.inr (Or.inl ⟨hmem, hdg, hres.1.2, q, a0, _, rfl⟩))
              · have e19 := Nat.eq_of_beq_eq_true q.2
                exact Or.inr (Or.inr (Or.inr (Or.inr (Or.inr ⟨hmem, Nat.eq_of_beq_eq_true q.1.2, hdg, hres.1.2, q.1.1, e19, a0, _, rfl, by rw [hk]; exact rc_19 (mT_lt hmem) e19⟩))))⟩ (Nat.le_of_ble_eq_true hq) hLR hM hS
            rw [List.reverse_cons, List.reverse_reverse, List.append_assoc] at hk2
            rw [hsp]
            exact hk2
          · exact h.elim
        · exact h.elim
      · exact h.elim
  | invokevirtual i0 =>
    dsimp only at h hres hn hdg
    have hn : n = 3 := hn.resolve_right (fun ⟨_, _, _, _, q⟩ => by cases q)
    subst hn
    cases li with
    | cons q0 q1 =>
      cases q1 with
      | nil =>
        dsimp only at h hres
        split at h
        · rename_i d0 r st
          split at h
          · rename_i hq
            obtain ⟨a0, rfl, h⟩ := sat_ons h
            obtain ⟨hk, h⟩ := sat_ite h
            have hq4 := Nat.le_of_ble_eq_true hq
            have hcs := catsum (Γ := Γ) st
            have e1 : mcL.getD y 99 = 17 := Nat.eq_of_beq_eq_true (Bool.and_eq_true_iff.mp hres).1
            obtain rfl : i0 = 316 := Nat.eq_of_beq_eq_true (Bool.and_eq_true_iff.mp hres).2
            rw [e1] at hown
            have g1 : pSz (cpyM (mkN M kInt (pLn M a0)) a0 (pSz M) 0 0 (pLn M a0)) - z0 = pSz M - z0 + 1 := by show pSz M + 1 - z0 = _; omega
            have g2 : pSl (cpyM (mkN M kInt (pLn M a0)) a0 (pSz M) 0 0 (pLn M a0)) - l0 = pSl M - l0 + pLn M a0 := by show pSl M + pLn M a0 - l0 = _; omega
            have hB := h.1
            rw [g1, g2] at hB
            refine m_clone hx hb (by rw [hml]; exact hLR.2.1.symm) hown hE hM hS hk (by omega) (by omega) hB.1 hB.2 hdg (fun H1 hM1 hS1 => ?_)
            have hk2 := h.2 lk H1 locs hLR hM1 hS1
            rw [g1, g2] at hk2
            exact hk2
          · exact h.elim
        · exact h.elim
      | cons q1 q2 =>
        dsimp only at h hres
        split at h
        · rename_i d0 r st
          split at h
          · rename_i hq
            obtain ⟨a0, rfl, h⟩ := sat_ons h
            obtain ⟨hk, h⟩ := sat_ite h
            have hq4 := Nat.le_of_ble_eq_true hq
            have hcs := catsum (Γ := Γ) st
            have e1 : mcL.getD y 99 = 17 := Nat.eq_of_beq_eq_true (Bool.and_eq_true_iff.mp hres).1
            obtain rfl : i0 = 310 := Nat.eq_of_beq_eq_true (Bool.and_eq_true_iff.mp hres).2
            rw [e1] at hown
            have g1 : pSz (cpyM (mkN M kByt (pLn M a0)) a0 (pSz M) 0 0 (pLn M a0)) - z0 = pSz M - z0 + 1 := by show pSz M + 1 - z0 = _; omega
            have g2 : pSl (cpyM (mkN M kByt (pLn M a0)) a0 (pSz M) 0 0 (pLn M a0)) - l0 = pSl M - l0 + pLn M a0 := by show pSl M + pLn M a0 - l0 = _; omega
            have hB := h.1
            rw [g1, g2] at hB
            refine m_cloneB hx hb (by rw [hml]; exact hLR.2.1.symm) hown hE hM hS hk.1 hk.2 (by omega) (by omega) hB.1 hB.2 hdg (fun H1 hM1 hS1 => ?_)
            have hk2 := h.2 lk H1 locs hLR hM1 hS1
            rw [g1, g2] at hk2
            exact hk2
          · exact h.elim
        · exact h.elim
    | nil =>
      dsimp only at h hres
      simp only [Bool.and_eq_true, Bool.not_eq_true', Bool.or_eq_true] at hres
      split at h
      · rename_i hok
        split at h
        · rename_i r st2 hst
          split at h
          · rename_i hq
            obtain ⟨a0, rfl, h⟩ := sat_ons h
            obtain ⟨hk, h⟩ := sat_ite h
            unfold okC at hok
            rw [Bool.and_eq_true] at hok
            have hlen : (st.take b).length = b := Nat.eq_of_beq_eq_true hok.1
            have hsp : st = st.take b ++ (vR (some a0) :: st2) := by rw [← hst, List.take_append_drop]
            have hk2 := h pc lk H locs rfl ⟨by simpa [notL] using hok.2, by rw [List.length_cons, List.length_reverse, hlen]; exact (Nat.eq_of_beq_eq_true hres.1.1.1).symm, i0, by
              rcases hres.2 with q | q | q
              · have hmem := List.contains_iff_mem.mp q.1
                have hlt : mcL.getD a 99 < 14 := by simpa using q.2
                exact Or.inr (Or.inl ⟨hmem, hdg, hres.1.1.2, hres.1.2, hlt, a0, _, rfl, by rw [hk]; exact rc_mc (mT_lt hmem) (by omega)⟩)
              · have hmem := List.contains_iff_mem.mp q.1.1
                have e19 := Nat.eq_of_beq_eq_true q.1.2
                exact Or.inr (Or.inr (Or.inr (Or.inl ⟨hmem, hdg, hres.1.1.2, hres.1.2, e19, (fun e => by have := q.2; rw [e] at this; exact absurd this (by decide)), a0, _, rfl, by rw [hk]; exact rc_19 (mT_lt hmem) e19⟩)))
              · have hmem := List.contains_iff_mem.mp q
                have e := uT_eq hmem
                have ea : a = m_SB_length := (Prod.mk.inj (Prod.mk.inj e).2).2
                exact Or.inr (Or.inr (Or.inr (Or.inr (Or.inl ⟨hmem, hdg, a0, _, rfl, by rw [hk, ea]; rfl⟩))))⟩ (Nat.le_of_ble_eq_true hq) hLR hM hS
            rw [List.reverse_cons, List.reverse_reverse, List.append_assoc] at hk2
            rw [hsp]
            exact hk2
          · exact h.elim
        · exact h.elim
      · exact h.elim
  | invokestatic i0 =>
    dsimp only at h hres hn hdg
    have hn : n = 3 := hn.resolve_right (fun ⟨_, _, _, _, q⟩ => by cases q)
    subst hn
    split at h
    · split at h
      · rename_i d0 n0 dp rd sp rs st
        split at h
        · rename_i hq
          obtain ⟨a0, e1, h1⟩ := sat_ons h
          clear h
          obtain ⟨b0, e2, h⟩ := sat_ons h1
          clear h1
          subst e1
          subst e2
          obtain ⟨hk, h⟩ := sat_ite h
          obtain ⟨hi, h⟩ := sat_ite h
          have hq4 := Nat.le_of_ble_eq_true hq
          have hcs := catsum (Γ := Γ) st
          refine m_cpy hx hb (by rw [hml]; exact hLR.2.1.symm) hown hE hM hS (List.contains_iff_mem.mp hres) hk.1 hk.2 hi.1 hi.2.1 hi.2.2.1 hi.2.2.2.1 hi.2.2.2.2 (by omega) ?_ hdg (fun H1 locs1 hM1 hS1 => h.2 lk H1 locs1 hLR hM1 hS1)
          have : nativeFrameWords "java/lang/System" "arraycopy" 5 + 11 ≤ 40 := by decide +kernel
          omega
        · exact h.elim
      · exact h.elim
    · split at h
      · rename_i d0 n0 dp rd sp rs st
        split at h
        · rename_i hq
          obtain ⟨a0, e1, h1⟩ := sat_ons h
          clear h
          obtain ⟨b0, e2, h⟩ := sat_ons h1
          clear h1
          subst e1
          subst e2
          obtain ⟨hk, h⟩ := sat_ite h
          obtain ⟨hi, h⟩ := sat_ite h
          have hq4 := Nat.le_of_ble_eq_true hq
          have hcs := catsum (Γ := Γ) st
          refine m_cpyB hx hb (by rw [hml]; exact hLR.2.1.symm) hown hE hH hM hS (List.contains_iff_mem.mp hres) hk.1 hk.2.1 hk.2.2 hi.1 hi.2.1 hi.2.2.1 hi.2.2.2.1 hi.2.2.2.2 (by omega) ?_ hdg (fun H1 locs1 hM1 hS1 => h.2 lk H1 locs1 hLR hM1 hS1)
          have : nativeFrameWords "java/lang/System" "arraycopy" 5 + 11 ≤ 40 := by decide +kernel
          omega
        · exact h.elim
      · exact h.elim
    · split at h
      · rename_i d0 n0 i1 st
        split at h
        · rename_i hq
          obtain ⟨hi, h⟩ := sat_ite h
          have hq4 := Nat.le_of_ble_eq_true hq
          have hcs := catsum (Γ := Γ) st
          have hm : (mcL.getD y 99, i0) ∈ ciTab := List.contains_iff_mem.mp hres
          have hm2 : mcL.getD y 99 = 14 ∧ i0 = 9 := by
            have : ciTab = [(14, 9)] := rfl
            rw [this] at hm
            simpa using hm
          obtain ⟨e1, rfl⟩ := hm2
          rw [e1] at hown
          exact m_chk hx hb (by rw [hml]; exact hLR.2.1) hown hE hH hM hS hi.1 hi.2 (by omega) (by omega) (by omega) h.1.1 h.1.2 hdg (fun H1 locs1 hM1 hS1 => h.2 lk H1 locs1 hLR hM1 hS1)
        · exact h.elim
      · exact h.elim
    · rename_i n9 n10 n8
      simp only [Bool.and_eq_true] at hres
      split at h
      · rename_i hok
        split at h
        · rename_i hq
          unfold okC at hok
          rw [Bool.and_eq_true] at hok
          have hlen : (st.take b).length = b := Nat.eq_of_beq_eq_true hok.1
          have hk2 := h pc lk H locs rfl ⟨by simpa using hok.2, by rw [List.length_reverse, hlen]; exact (Nat.eq_of_beq_eq_true hres.1.2).symm, i0, Or.inl ⟨List.contains_iff_mem.mp hres.1.1, hdg, hres.2⟩⟩ (Nat.le_of_ble_eq_true hq) hLR hM hS
          rw [List.reverse_reverse, List.take_append_drop] at hk2
          exact hk2
        · exact h.elim
      · exact h.elim
  | checkcast i0 =>
    dsimp only at h hres hn hdg
    have hn : n = 3 := hn.resolve_right (fun ⟨_, _, _, _, q⟩ => by cases q)
    subst hn
    split at h
    · rename_i r st
      cases a with
      | zero =>
        dsimp only at h hres
        rw [Bool.and_eq_true] at hres
        have e1 : mcL.getD y 99 = 17 := Nat.eq_of_beq_eq_true hres.1
        obtain rfl : i0 = 317 := Nat.eq_of_beq_eq_true hres.2
        rw [e1] at hown
        obtain ⟨a0, rfl, h⟩ := sat_ons h
        obtain ⟨hk, h⟩ := sat_ite h
        exact m_ccI hx hb hown hE hM hk hdg (h.2 lk H locs hLR hM hS)
      | succ a =>
        dsimp only at h hres
        rw [Bool.and_eq_true] at hres
        have e1 : mcL.getD y 99 = 17 := Nat.eq_of_beq_eq_true hres.1
        obtain rfl : i0 = 311 := Nat.eq_of_beq_eq_true hres.2
        rw [e1] at hown
        obtain ⟨a0, rfl, h⟩ := sat_ons h
        obtain ⟨hk, h⟩ := sat_ite h
        exact m_ccB hx hb hown hE hM hk.1 hk.2 hdg (h.2 lk H locs hLR hM hS)
    · exact h.elim
  | ireturn =>
    dsimp only at h hres hn hdg
    have hn : n = 1 := hn.resolve_right (fun ⟨_, _, _, _, q⟩ => by cases q)
    subst hn
    split at h
    · rename_i v
      obtain ⟨hv, h⟩ := sat_ite h
      exact h pc lk H locs (Or.inl ⟨hdg, v, rfl, hv⟩) hM hS
    · exact h.elim
  | lreturn =>
    dsimp only at h hres hn hdg
    have hn : n = 1 := hn.resolve_right (fun ⟨_, _, _, _, q⟩ => by cases q)
    subst hn
    split at h
    · rename_i v
      exact h pc lk H locs (Or.inr (Or.inl ⟨hdg, Nat.eq_of_beq_eq_true hres, v, rfl⟩)) hM hS
    · exact h.elim
  | areturn =>
    dsimp only at h hres hn hdg
    have hn : n = 1 := hn.resolve_right (fun ⟨_, _, _, _, q⟩ => by cases q)
    subst hn
    split at h
    · rename_i v
      exact h pc lk H locs (Or.inr (Or.inr (Or.inl ⟨hdg, Nat.eq_of_beq_eq_true hres, v, rfl⟩))) hM hS
    · exact h.elim
  | return_ =>
    dsimp only at h hres hn hdg
    have hn : n = 1 := hn.resolve_right (fun ⟨_, _, _, _, q⟩ => by cases q)
    subst hn
    split at h
    · exact h pc lk H locs (Or.inr (Or.inr (Or.inr ⟨hdg, Nat.eq_of_beq_eq_true hres, rfl⟩))) hM hS
    · exact h.elim
  | _ => exact h.elim
end STEP
