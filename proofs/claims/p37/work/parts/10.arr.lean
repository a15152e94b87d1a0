/-! Instructions over rows; the bytes of the constants and of the digits. -/
theorem strB0 : (List.range nStr).all (fun j => (List.range ((strL.getD j []).length)).all (fun k => decide (((strL.getD j []).getD k 0).toInt8.toInt32 = (strL.getD j []).getD k 0))) = true := by decide +kernel
theorem strB {j k : Nat} (hj : j < nStr) (hk : k < (strL.getD j []).length) : bytP ((strL.getD j []).getD k 0) := by
  have := List.all_eq_true.mp (List.all_eq_true.mp strB0 j (List.mem_range.mpr hj)) k (List.mem_range.mpr hk)
  unfold bytP
  exact of_decide_eq_true this
theorem dgtB0 : (List.range 2).all (fun w => (List.range 100).all (fun k => decide ((digV w k).toInt8.toInt32 = digV w k))) = true := by decide +kernel
theorem dgtB {w k : Nat} (hw : w < 2) (hk : k < 100) : bytP (digV w k) := by
  have := List.all_eq_true.mp (List.all_eq_true.mp dgtB0 w (List.mem_range.mpr hw)) k (List.mem_range.mpr hk)
  unfold bytP
  exact of_decide_eq_true this
theorem isArr_ns {s : State} {cell : Cell} {ty : FieldType} (h : s.isArrayOf cell ty) : cell.vm.isStatics = false := by
  obtain ⟨h1, -⟩ := h
  cases hv : cell.vm <;> first | rfl | exact absurd hv (h1 _)
section MEMA
variable {p : Program} {l : Launch} {e : Env} {R : Room} {s : State} {m : MethodId} {args : Array Value} {below : List Frame} {meth : Method} {c : Code} {H : Heap} {locs : List Loc} {cells slots : Nat} {Q : State → Prop}
variable {Γ : CX} {pc : Nat} {lk : Array Slot} {rest : List Value} {cc : ByteArray} {M : PM}
theorem inB_vp {i : Int32} {n : Nat} (h : inB i n) : vp_in i n := vp_in_iff.mpr h
theorem inB_lt {i : Int32} {n : Nat} (h : inB i n) : ixN i < n := by
  have := h.1
  have := h.2
  unfold ixN
  omega
theorem m_ald (hx : p.tables.exec = Jvm.exec) (hb : c.code = cc) (hE : EO Γ s) (hM : RelM Γ M H) {a : Nat} (ha : pKd M a = 20) {i : Int32} (hi : inB i (pLn M a)) (hdg : decode cc pc = .ok (.iaload, 1))
    (kk : W p l e R s m args below meth c H locs cells slots Q (F0 m (pc + 1) lk (.int (pI M a (ixN i)) :: rest))) : W p l e R s m args below meth c H locs cells slots Q (F0 m pc lk (.int i :: .ref (adF Γ a) :: rest)) := by
  obtain ⟨h45, hc⟩ := hM.arr ha
  exact W.iald (v := .int (pI M a (ixN i))) hx hb hc ((hE.2.1.2 0 _ rfl).1 _ _) (fun q => by cases q) (by show ¬ (i < 0 ∨ (arrV _ _ _).slots.size ≤ _); rw [arrV_size]; exact inB_vp hi) (by show (arrV _ _ _).slots[_]? = _; exact arrV_read _ _ (inB_lt hi)) rfl rfl hdg kk
theorem m_alds (hx : p.tables.exec = Jvm.exec) (hb : c.code = cc) (hH : EH Γ s s.heap) (hM : RelM Γ M H) (hS : va_S (AF Γ) s.heap H locs) {a : Nat} (ha : pKd M a = 19) {i : Int32} (hi : inB i (pLn M a)) (hdg : decode cc pc = .ok (.iaload, 1))
    (kk : W p l e R s m args below meth c H locs cells slots Q (F0 m (pc + 1) lk (.int (pI M a (ixN i)) :: rest))) : W p l e R s m args below meth c H locs cells slots Q (F0 m pc lk (.int i :: .ref (adF Γ a) :: rest)) := by
  have h0 := hM.scr ha
  subst h0
  obtain ⟨-, g1, g2, -⟩ := hM.2.2.2.1
  have e1 : adF Γ 0 = cxA Γ 0 := adF_old (by omega) (by omega) hM.2.2.2.2.2.2
  rw [e1]
  rw [g1] at hi
  refine va_sld hx hb hH.2.2.1 hH.2.2.2.1 hH.2.2.2.2.1 hS (inB_vp hi) hdg ?_
  rw [g2 _ (inB_lt hi)] at kk
  exact kk
theorem m_bald (hx : p.tables.exec = Jvm.exec) (hb : c.code = cc) (hE : EO Γ s) (hH : EH Γ s s.heap) (hM : RelM Γ M H) (hS : va_S (AF Γ) s.heap H locs) {a : Nat} (ha : pKd M a = 21) {i : Int32} (hi : inB i (pLn M a)) (hdg : decode cc pc = .ok (.baload, 1))
    (kk : W p l e R s m args below meth c H locs cells slots Q (F0 m (pc + 1) lk (.int (pI M a (ixN i)) :: rest))) : W p l e R s m args below meth c H locs cells slots Q (F0 m pc lk (.int i :: .ref (adF Γ a) :: rest)) := by
  have hG := hM.2.2.2.2.2.2
  rcases hM.byt ha with ⟨hn, -⟩ | ⟨j, hj, rfl⟩ | ⟨w, hw, rfl⟩
  · obtain ⟨hc, -⟩ := hM.arb ha hn
    exact W.bald (v := .int (pI M a (ixN i))) hx hb hc ((hE.2.1.2 1 _ rfl).1 _ _) (fun q => by cases q) (by show ¬ (i < 0 ∨ (arrV _ _ _).slots.size ≤ _); rw [arrV_size]; exact inB_vp hi) (by show (arrV _ _ _).slots[_]? = _; exact arrV_read _ _ (inB_lt hi)) rfl rfl hdg kk
  · obtain ⟨-, -, -, h1, -, -⟩ := hM.2.2.2.1
    have hp := plS_lt hj
    obtain ⟨-, -, -, -, z5, z6⟩ := h1 j hj
    rw [adF_old (by omega) (by omega) hG]
    rw [z5] at hi
    rw [z6] at kk
    exact va_tb hx hb (hH.1 j hj).2.2.2 hS (inB_vp hi) rfl hdg kk
  · obtain ⟨-, -, -, -, h1, -⟩ := hM.2.2.2.1
    obtain ⟨-, z2, z3⟩ := h1 w hw
    rw [adF_old (by omega) (by omega) hG]
    rw [z2] at hi
    rw [z3 _ (inB_lt hi)] at kk
    exact va_tb hx hb (hH.2.2.2.2.2.2 w hw).2 hS (inB_vp hi) rfl hdg kk
theorem m_alen (hx : p.tables.exec = Jvm.exec) (hb : c.code = cc) (hE : EO Γ s) (hH : EH Γ s s.heap) (hM : RelM Γ M H) (hS : va_S (AF Γ) s.heap H locs) {a : Nat} (ha : 19 ≤ pKd M a ∧ pKd M a < 26) (hdg : decode cc pc = .ok (.arraylength, 1))
    (kk : W p l e R s m args below meth c H locs cells slots Q (F0 m (pc + 1) lk (.int (Int32.ofNat (pLn M a)) :: rest))) : W p l e R s m args below meth c H locs cells slots Q (F0 m pc lk (.ref (adF Γ a) :: rest)) := by
  rcases (by omega : pKd M a = 19 ∨ pKd M a = 20 ∨ pKd M a = 21 ∨ (22 ≤ pKd M a ∧ pKd M a < 26)) with h | h | h | h
  · have h0 := hM.scr h
    subst h0
    obtain ⟨-, g1, -, -⟩ := hM.2.2.2.1
    rw [g1] at kk
    rw [adF_old (by omega) (by omega) hM.2.2.2.2.2.2]
    exact va_slen hx hb hH.2.2.1 hH.2.2.2.1 hH.2.2.2.2.1 hS hdg kk
  · obtain ⟨h45, hc⟩ := hM.arr h
    exact W.alen (n := Int32.ofNat (pLn M a)) hx hb hc ((hE.2.1.2 0 _ rfl).1 _ _) (by rw [arrV_size] <;> rfl) rfl rfl hdg kk
  · have hG := hM.2.2.2.2.2.2
    rcases hM.byt h with ⟨hn, -⟩ | ⟨j, hj, rfl⟩ | ⟨w, hw, rfl⟩
    · obtain ⟨hc, -⟩ := hM.arb h hn
      exact W.alen (n := Int32.ofNat (pLn M a)) hx hb hc ((hE.2.1.2 1 _ rfl).1 _ _) (by rw [arrV_size] <;> rfl) rfl rfl hdg kk
    · obtain ⟨-, -, -, h1, -, -⟩ := hM.2.2.2.1
      have hp := plS_lt hj
      obtain ⟨-, -, -, -, z5, z6⟩ := h1 j hj
      rw [adF_old (by omega) (by omega) hG]
      rw [z5] at kk
      exact va_tlen hx hb (hH.1 j hj).2.2.2 hS rfl hdg kk
    · obtain ⟨-, -, -, -, h1, -⟩ := hM.2.2.2.1
      obtain ⟨-, z2, z3⟩ := h1 w hw
      rw [adF_old (by omega) (by omega) hG]
      rw [z2] at kk
      exact va_tlen hx hb (hH.2.2.2.2.2.2 w hw).2 hS rfl hdg kk
  · obtain ⟨h45, hc⟩ := hM.arq ⟨h.1, by omega⟩
    obtain ⟨C, hty⟩ : ∃ C, (tysL (cxC Γ))[pKd M a - 20]? = some (cxC Γ (pKd M a - 20), .object C) := by rcases (by omega : pKd M a = 22 ∨ pKd M a = 23 ∨ pKd M a = 24 ∨ pKd M a = 25) with q | q | q | q <;> rw [q] <;> exact ⟨_, rfl⟩
    exact W.alen (n := Int32.ofNat (pLn M a)) hx hb hc ((hE.2.1.2 _ _ hty).1 _ _) (by rw [arrV_size] <;> rfl) rfl rfl hdg kk
theorem m_ast (hx : p.tables.exec = Jvm.exec) (hb : c.code = cc) (hE : EO Γ s) (hM : RelM Γ M H) (hS : va_S (AF Γ) s.heap H locs) {a : Nat} (ha : pKd M a = 20) {i v : Int32} (hi : inB i (pLn M a)) (hdg : decode cc pc = .ok (.iastore, 1))
    (kk : ∀ (H1 : Heap) (locs1 : List Loc), RelM Γ (setI M a (ixN i) v) H1 → va_S (AF Γ) s.heap H1 locs1 → W p l e R s m args below meth c H1 locs1 cells slots Q (F0 m (pc + 1) lk rest)) : W p l e R s m args below meth c H locs cells slots Q (F0 m pc lk (.int v :: .int i :: .ref (adF Γ a) :: rest)) := by
  obtain ⟨h45, hc⟩ := hM.arr ha
  refine W.iast hx hb hc ((hE.2.1.2 0 _ rfl).1 _ _) (fun q => by cases q) (by show ¬ (i < 0 ∨ (arrV _ _ _).slots.size ≤ _); rw [arrV_size]; exact inB_vp hi) rfl rfl hdg fun H1 e1 z oq => ?_
  refine kk H1 _ (hM.upd h45 rfl rfl rfl (fun b hb => funext fun j => ?_) (fun b hb => rfl) (Or.inr (Or.inl ⟨ha, ?_⟩)) z oq) (hS.put z oq (adF_A h45))
  · show up2 (pI M) a (ixN i) v b j = _
    simp [up2, hb]
  · rw [e1, arrV_store]
    congr 2
    funext j
    show updV _ _ _ j = Value.int (up2 (pI M) a (ixN i) v a j)
    by_cases hj : j = ixN i
    · subst hj
      simp [updV, up2, ixN]
    · have hj' : ¬ j = i.toNatClampNeg := hj
      simp [updV, up2, hj, hj']
theorem m_aldq (hx : p.tables.exec = Jvm.exec) (hb : c.code = cc) (hE : EO Γ s) (hM : RelM Γ M H) {a : Nat} (ha : 22 ≤ pKd M a ∧ pKd M a < 28) {i : Int32} (hi : inB i (pLn M a)) (hdg : decode cc pc = .ok (.aaload, 1))
    (kk : W p l e R s m args below meth c H locs cells slots Q (F0 m (pc + 1) lk (va_rf ((pR M a (ixN i)).map (adF Γ)) :: rest))) : W p l e R s m args below meth c H locs cells slots Q (F0 m pc lk (.int i :: .ref (adF Γ a) :: rest)) := by
  obtain ⟨h45, hc⟩ := hM.arq ha
  obtain ⟨ty, hty, hre⟩ : ∃ ty, (tysL (cxC Γ))[pKd M a - 20]? = some (cxC Γ (pKd M a - 20), ty) ∧ ty.isReference = true := by rcases (by omega : pKd M a = 22 ∨ pKd M a = 23 ∨ pKd M a = 24 ∨ pKd M a = 25 ∨ pKd M a = 26 ∨ pKd M a = 27) with q | q | q | q | q | q <;> rw [q] <;> exact ⟨_, rfl, rfl⟩
  exact W.aald (v := va_rf ((pR M a (ixN i)).map (adF Γ))) (ty := ty) hx hb hc ((hE.2.1.2 _ _ hty).1 _ _) hre (fun q => by cases q) (by show ¬ (i < 0 ∨ (arrV _ _ _).slots.size ≤ _); rw [arrV_size]; exact inB_vp hi) (by show (arrV _ _ _).slots[_]? = _; exact arrV_read _ _ (inB_lt hi)) rfl rfl hdg kk
theorem m_astq (hx : p.tables.exec = Jvm.exec) (hb : c.code = cc) (hE : EO Γ s) (hH : EH Γ s s.heap) (hM : RelM Γ M H) (hS : va_S (AF Γ) s.heap H locs) {a : Nat} (ha : 22 ≤ pKd M a ∧ pKd M a < 27) {i : Int32} (hi : inB i (pLn M a)) {v : Option Nat} (hv : ∀ b, v = some b → pKd M b = eCl (pKd M a)) (hdg : decode cc pc = .ok (.aastore, 1))
    (kk : ∀ (H1 : Heap) (locs1 : List Loc), RelM Γ (setR M a (ixN i) v) H1 → va_S (AF Γ) s.heap H1 locs1 → W p l e R s m args below meth c H1 locs1 cells slots Q (F0 m (pc + 1) lk rest)) : W p l e R s m args below meth c H locs cells slots Q (F0 m pc lk (va_rf (v.map (adF Γ)) :: .int i :: .ref (adF Γ a) :: rest)) := by
  obtain ⟨h45, hc⟩ := hM.arq ⟨ha.1, by omega⟩
  have hty : (tysL (cxC Γ))[pKd M a - 20]? = some (cxC Γ (pKd M a - 20), .object (cNm (eCl (pKd M a)))) := by rcases (by omega : pKd M a = 22 ∨ pKd M a = 23 ∨ pKd M a = 24 ∨ pKd M a = 25 ∨ pKd M a = 26) with q | q | q | q | q <;> rw [q] <;> rfl
  have hlt : eCl (pKd M a) < 14 := by rcases (by omega : pKd M a = 22 ∨ pKd M a = 23 ∨ pKd M a = 24 ∨ pKd M a = 25 ∨ pKd M a = 26) with q | q | q | q | q <;> rw [q] <;> decide
  have hfin : ∀ H1 : Heap, H1[adF Γ a]? = some ((arrV (cxC Γ (pKd M a - 20)) (pLn M a) (fun j => va_rf ((pR M a j).map (adF Γ)))).setSlot i.toNatClampNeg (va_rf (v.map (adF Γ)))) → H1.size = H.size → (∀ q, q ≠ adF Γ a → H1[q]? = H[q]?) → RelM Γ (setR M a (ixN i) v) H1 := by
    intro H1 e1 z oq
    refine hM.upd h45 rfl rfl rfl (fun b hb => rfl) (fun b hb => funext fun j => ?_) (Or.inr (Or.inr (Or.inl ⟨ha.1, Nat.lt_succ_of_lt ha.2, ?_⟩))) z oq
    · show up2 (pR M) a (ixN i) v b j = _
      simp [up2, hb]
    · rw [e1, arrV_store]
      show some (arrV (cxC Γ (pKd M a - 20)) (pLn M a) _) = some (arrV (cxC Γ (pKd M a - 20)) (pLn M a) _)
      congr 2
      funext j
      show updV _ _ _ j = va_rf ((up2 (pR M) a (ixN i) v a j).map (adF Γ))
      by_cases hj : j = ixN i
      · subst hj
        simp [updV, up2, ixN]
      · have hj' : ¬ j = i.toNatClampNeg := hj
        simp [updV, up2, hj, hj']
  cases v with
  | none =>
    refine va_WaastN (C := cNm (eCl (pKd M a))) hx hb hc ((hE.2.1.2 _ _ hty).1 _ _) (fun h => by cases h) (by show ¬ (i < 0 ∨ (arrV _ _ _).slots.size ≤ _); rw [arrV_size]; exact inB_vp hi) rfl rfl hdg fun H1 e1 z oq => ?_
    exact kk H1 _ (hfin H1 e1 z oq) (hS.put z oq (adF_A h45))
  | some b =>
    obtain ⟨T, N, ty, hcl, -⟩ := clF_all hE _ hlt
    have hcls := (hE.2.1.1 _ _ hcl).2
    obtain ⟨cellV, g1, g2, g3⟩ : ∃ cellV : Cell, H[adF Γ b]? = some cellV ∧ cellV.cls = (cxD Γ).1 (eCl (pKd M a)) ∧ (∀ k, cellV.vm ≠ .statics k) := by
      by_cases hbn : nwP Γ b
      · obtain ⟨cellV, g1, g2, g3, -⟩ := hM.obj (hv b rfl) hlt hbn
        exact ⟨cellV, g1, g2, fun k h => by rw [g3] at h; cases h⟩
      · have e13 : eCl (pKd M a) = 13 := by
          by_cases h13 : pKd M b < 13
          · exact absurd (hM.nw13 h13) hbn
          · have := hv b rfl
            omega
        obtain ⟨j, hj, rfl⟩ := (hM.str ((hv b rfl).trans e13)).resolve_left (fun q => hbn q.1)
        have hp := plS_lt hj
        rw [adF_old (by omega) (by omega) hM.2.2.2.2.2.2]
        obtain ⟨cell, c1, c2, c3, -⟩ := (hH.1 j hj).1.kept hS.2.1
        refine ⟨cell, c1, ?_, fun k h => by rw [h] at c2; cases c2⟩
        have hf := hcls.1
        rw [e13] at hf ⊢
        have hf' : s.vm.findClass "java/lang/String" = some ((cxD Γ).1 13) := hf
        rw [hf'] at c3
        exact (Option.some.inj c3).symm
    obtain ⟨kA, comp, k1, k2, k3, -⟩ := (hE.2.1.2 _ _ hty).2
    have hcomp : comp = (cxD Γ).1 (eCl (pKd M a)) := Option.some.inj (k3.symm.trans hcls.1)
    subst hcomp
    obtain ⟨kC, hkC, -⟩ := hcls.2
    refine W.aast hx hb hc (fun q h => by cases h) (fun h => by cases h) k1 k2 rfl hkC ⟨(fun q => inB_vp hi (Or.inl q)), by show _ < (arrV _ _ _).slots.size; rw [arrV_size]; exact inB_lt hi⟩ g1 g3 (by rw [g2]; exact hkC) (by rw [g2]; exact va_assign hcls) rfl rfl hdg fun H1 e1 z oq => ?_
    exact kk H1 _ (hfin H1 e1 z oq) (hS.put z oq (adF_A h45))
theorem narB (x : Int32) : narrow .byte (.int x) = .int x.toInt8.toInt32 := rfl
theorem bytP_nar (x : Int32) : bytP x.toInt8.toInt32 := by
  show x.toInt8.toInt32.toInt8.toInt32 = x.toInt8.toInt32
  rw [Int8.toInt8_toInt32]
theorem m_bast (hx : p.tables.exec = Jvm.exec) (hb : c.code = cc) (hE : EO Γ s) (hM : RelM Γ M H) (hS : va_S (AF Γ) s.heap H locs) {a : Nat} (ha : pKd M a = 21) (hn : 159 ≤ a) {i v : Int32} (hi : inB i (pLn M a)) (hdg : decode cc pc = .ok (.bastore, 1))
    (kk : ∀ (H1 : Heap) (locs1 : List Loc), RelM Γ (setI M a (ixN i) v.toInt8.toInt32) H1 → va_S (AF Γ) s.heap H1 locs1 → W p l e R s m args below meth c H1 locs1 cells slots Q (F0 m (pc + 1) lk rest)) : W p l e R s m args below meth c H locs cells slots Q (F0 m pc lk (.int v :: .int i :: .ref (adF Γ a) :: rest)) := by
  have hnw : nwP Γ a := nw159 hn
  obtain ⟨hc, hby⟩ := hM.arb ha hnw
  refine W.bast hx hb hc ((hE.2.1.2 1 _ rfl).1 _ _) (fun q => by cases q) (by show ¬ (i < 0 ∨ (arrV _ _ _).slots.size ≤ _); rw [arrV_size]; exact inB_vp hi) rfl rfl hdg fun H1 e1 z oq => ?_
  refine kk H1 _ (hM.upd hnw rfl rfl rfl (fun b hb => funext fun j => ?_) (fun b hb => rfl) (Or.inr (Or.inr (Or.inr ⟨ha, ?_, fun j => ?_⟩))) z oq) (hS.put z oq (adF_A hnw))
  · show up2 (pI M) a (ixN i) _ b j = _
    simp [up2, hb]
  · rw [e1, arrV_store]
    congr 2
    funext j
    show updV _ _ _ j = Value.int (up2 (pI M) a (ixN i) v.toInt8.toInt32 a j)
    by_cases hj : j = ixN i
    · subst hj
      simp [updV, up2, ixN, narB]
    · have hj' : ¬ j = i.toNatClampNeg := hj
      simp [updV, up2, hj, hj']
  · show bytP (up2 (pI M) a (ixN i) v.toInt8.toInt32 a j)
    unfold up2
    split
    · exact bytP_nar v
    · exact hby j
theorem m_cpy (hx : p.tables.exec = Jvm.exec) (hb : c.code = cc) (hml : c.maxLocals = lk.size) {o i : Nat} (hown : s.vm.findClass (cNm o) = some m.cls) (hE : EO Γ s) (hM : RelM Γ M H) (hS : va_S (AF Γ) s.heap H locs) (ht : (o, i) ∈ acTab) {a b : Nat} (ha : pKd M a = 20) (hb2 : pKd M b = 20) {sp dp n : Int32} (h1 : 0 ≤ sp.toInt) (h2 : 0 ≤ dp.toInt) (h3 : 0 ≤ n.toInt) (h4 : sp.toInt + n.toInt ≤ pLn M a) (h5 : dp.toInt + n.toInt ≤ pLn M b)
    (hframes : 1 ≤ R.frames) (hlocals : (rest.map fun v => v.category).sum + (nativeFrameWords "java/lang/System" "arraycopy" 5 + 11) ≤ R.locals) (hdg : decode cc pc = .ok (.invokestatic i, 3))
    (kk : ∀ (H1 : Heap) (locs1 : List Loc), RelM Γ (cpyM M a b (ixN sp) (ixN dp) (ixN n)) H1 → va_S (AF Γ) s.heap H1 locs1 → W p l e R s m args below meth c H1 locs1 cells slots Q (F0 m (pc + 3) lk rest)) : W p l e R s m args below meth c H locs cells slots Q (F0 m pc lk (.int n :: .int dp :: .ref (adF Γ b) :: .int sp :: .ref (adF Γ a) :: rest)) := by
  obtain ⟨ha45, hca⟩ := hM.arr ha
  obtain ⟨hb45, hcb⟩ := hM.arr hb2
  have ng : ∀ z : Int32, 0 ≤ z.toInt → ¬ z < 0 := fun z hz q => by have := Int32.lt_iff_toInt_lt.mp q; simp at this; omega
  intro T hT X
  obtain ⟨-, k0, hk0, cm0, hkk0⟩ := (hE.2.1.2 0 _ rfl).1 (pLn M a) (fun j => .int (pI M a j))
  obtain ⟨-, k1, hk1, cm1, hkk1⟩ := (hE.2.1.2 0 _ rfl).1 (pLn M b) (fun j => .int (pI M b j))
  obtain ⟨vm', X', step⟩ := X.arraycopy hx hown (hE.1 _ (w_acT _ ht) rfl args) (hE.1 _ w_acN rfl args) (hE.1 _ w_acS rfl args) (hE.1 _ w_acI rfl args) (src := adF Γ a) (dst := adF Γ b) (cs := arrV (cxC Γ 0) (pLn M a) (fun j => .int (pI M a j))) (cd := arrV (cxC Γ 0) (pLn M b) (fun j => .int (pI M b j))) (srcPos := sp) (destPos := dp) (n := n) (by rw [hT]; exact hca) (by rw [hT]; exact hcb)
    (fun _ h => by cases h) (fun _ h => by cases h) (fun h => by cases h) (fun h => by cases h) hk0 hk1 hkk0 hkk1 (by simp [show refKind FieldType.int = false from rfl]) (ng _ h1) (ng _ h2) (ng _ h3)
    (by show ¬ _ > ((arrV _ _ _).slots.size : Int); rw [arrV_size]; omega)
    (by show ¬ _ > ((arrV _ _ _).slots.size : Int); rw [arrV_size]; omega)
    (fun vm₁ _ i hi => by
      have hi' : i < n.toInt.toNat := hi
      have e : (arrV (cxC Γ 0) (pLn M a) (fun j => Value.int (pI M a j))).slots.getD (sp.toNatClampNeg + i) .null = .int (pI M a (sp.toNatClampNeg + i)) := by
        rw [Array.getD_eq_getD_getElem?, arrV_read _ _ (by show sp.toInt.toNat + i < _; omega)]
        rfl
      refine ⟨?_, ?_⟩
      · rw [e]
        rfl
      · rw [e]
        exact trivial)
    (g := F0 m pc lk (.int n :: .int dp :: .ref (adF Γ b) :: .int sp :: .ref (adF Γ a) :: rest)) rfl (by rw [hml]) (rest := rest) rfl (by rw [hb]; exact hdg) hframes (by show 2 * 0 + _ + _ ≤ _; omega)
  have e1 : copied (arrV (cxC Γ 0) (pLn M a) (fun j => .int (pI M a j))) (arrV (cxC Γ 0) (pLn M b) (fun j => .int (pI M b j))) sp dp n = arrV (cxC Γ 0) (pLn M b) (fun j => .int (va_cpy (pI M a) (pI M b) (ixN sp) (ixN dp) (ixN n) j)) :=
    va_copied (fun z => .int z) (cxC Γ 0) (cxC Γ 0) (pI M a) (pI M b) (by show sp.toInt.toNat + n.toInt.toNat ≤ _; omega)
  rw [e1] at X' step
  generalize hnc : arrV (cxC Γ 0) (pLn M b) (fun j => Value.int (va_cpy (pI M a) (pI M b) (ixN sp) (ixN dp) (ixN n) j)) = nc at X' step
  have hl : adF Γ b < H.size := (Array.getElem?_eq_some_iff.mp hcb).1
  have hheap : ((T.setVm vm').setCell (adF Γ b) nc).heap = H.setIfInBounds (adF Γ b) nc := by rw [← hT]; rfl
  have oq : ∀ q : Nat, q ≠ adF Γ b → (H.setIfInBounds (adF Γ b) nc)[q]? = H[q]? := fun q hq => by simp [Array.getElem?_setIfInBounds, Ne.symm hq]
  obtain ⟨t, a1, b1⟩ := kk _ _ (hM.upd hb45 rfl rfl rfl (fun q hq => funext fun j => by
      show cpI (pI M) a b (ixN sp) (ixN dp) (ixN n) q j = _
      simp [cpI, hq]) (fun q hq => rfl) (Or.inr (Or.inl ⟨hb2, by
      show (H.setIfInBounds (adF Γ b) nc)[adF Γ b]? = some (arrV (cxC Γ 0) (pLn M b) (fun j => Value.int (cpI (pI M) a b (ixN sp) (ixN dp) (ixN n) b j)))
      rw [Array.getElem?_setIfInBounds, if_pos rfl, if_pos hl, ← hnc]
      congr 2
      funext j
      simp only [cpI, va_cpy, true_and]⟩)) (by simp) oq) ⟨by simp; exact hS.1, fun q g1 g2 => by
      rw [oq q (fun e => g2 (by rw [e]; exact adF_A hb45))]
      exact hS.2.1 q g1 g2, fun q hq => by
      rcases List.mem_append.mp hq with h | h
      · exact hS.2.2 q h
      · obtain ⟨z, -, hz⟩ := List.mem_map.mp h
        rw [← hz]
        exact adF_A hb45⟩ _ hheap X'
  exact ⟨t, step t a1, b1⟩
/-- what a row of bytes is on the machine, old or new -/
theorem RelM.bcell (hE : EO Γ s) (hH : EH Γ s s.heap) (hM : RelM Γ M H) (hS : va_S (AF Γ) s.heap H locs) {a : Nat} (ha : pKd M a = 21) : ∃ cs : Cell, H[adF Γ a]? = some cs ∧ s.isArrayOf cs .byte ∧ cs.vm ≠ .unknown ∧ cs.vm.isStatics = false ∧ pLn M a ≤ cs.slots.size ∧ (∀ j, j < pLn M a → cs.slots[j]? = some (.int (pI M a j))) ∧ ∀ j, j < pLn M a → bytP (pI M a j) := by
  have hG := hM.2.2.2.2.2.2
  rcases hM.byt ha with ⟨hn, -⟩ | ⟨j, hj, rfl⟩ | ⟨w, hw, rfl⟩
  · obtain ⟨hc, hby⟩ := hM.arb ha hn
    exact ⟨_, hc, (hE.2.1.2 1 _ rfl).1 _ _, (fun h => by cases h), rfl, by rw [arrV_size]; exact Nat.le_refl _, fun j hj => arrV_read _ _ hj, fun j _ => hby j⟩
  · obtain ⟨-, -, -, h1, -, -⟩ := hM.2.2.2.1
    have hp := plS_lt hj
    obtain ⟨-, -, -, -, z5, z6⟩ := h1 j hj
    rw [adF_old (by omega) (by omega) hG]
    obtain ⟨cs, t1, t2, t3, t4, t5, t6, t7⟩ := (hH.1 j hj).2.2.2
    refine ⟨cs, ?_, t2, t3, ?_, by rw [z5]; exact t4, fun k hk => by rw [z6]; exact t6 k (by rw [← z5]; exact hk), fun k hk => ?_⟩
    · rw [hS.2.1 _ (Array.getElem?_eq_some_iff.mp t1).1 t7]
      exact t1
    · exact isArr_ns t2
    · rw [z6]
      exact strB hj (by rw [← z5]; exact hk)
  · obtain ⟨-, -, -, -, h1, -⟩ := hM.2.2.2.1
    obtain ⟨-, z2, z3⟩ := h1 w hw
    rw [adF_old (by omega) (by omega) hG]
    obtain ⟨cs, t1, t2, t3, t4, t5, t6, t7⟩ := (hH.2.2.2.2.2.2 w hw).2
    refine ⟨cs, ?_, t2, t3, ?_, by rw [z2]; exact t4, fun k hk => by rw [z3 k (by rw [← z2]; exact hk)]; exact t6 k (by rw [← z2]; exact hk), fun k hk => ?_⟩
    · rw [hS.2.1 _ (Array.getElem?_eq_some_iff.mp t1).1 t7]
      exact t1
    · exact isArr_ns t2
    · rw [z3 k (by rw [← z2]; exact hk)]
      exact dgtB hw (by rw [← z2]; exact hk)
theorem fitB {x : Int32} (h : bytP x) : fits .byte (.int x) = true := by
  have h8 := bytP_rng h
  simp [fits, h8.1, h8.2]
theorem m_cpyB (hx : p.tables.exec = Jvm.exec) (hb : c.code = cc) (hml : c.maxLocals = lk.size) {o i : Nat} (hown : s.vm.findClass (cNm o) = some m.cls) (hE : EO Γ s) (hH : EH Γ s s.heap) (hM : RelM Γ M H) (hS : va_S (AF Γ) s.heap H locs) (ht : (o, i) ∈ acTab) {a b : Nat} (ha : pKd M a = 21) (hb2 : pKd M b = 21) (hb159 : 159 ≤ b) {sp dp n : Int32} (h1 : 0 ≤ sp.toInt) (h2 : 0 ≤ dp.toInt) (h3 : 0 ≤ n.toInt) (h4 : sp.toInt + n.toInt ≤ pLn M a) (h5 : dp.toInt + n.toInt ≤ pLn M b)
    (hframes : 1 ≤ R.frames) (hlocals : (rest.map fun v => v.category).sum + (nativeFrameWords "java/lang/System" "arraycopy" 5 + 11) ≤ R.locals) (hdg : decode cc pc = .ok (.invokestatic i, 3))
    (kk : ∀ (H1 : Heap) (locs1 : List Loc), RelM Γ (cpyM M a b (ixN sp) (ixN dp) (ixN n)) H1 → va_S (AF Γ) s.heap H1 locs1 → W p l e R s m args below meth c H1 locs1 cells slots Q (F0 m (pc + 3) lk rest)) : W p l e R s m args below meth c H locs cells slots Q (F0 m pc lk (.int n :: .int dp :: .ref (adF Γ b) :: .int sp :: .ref (adF Γ a) :: rest)) := by
  obtain ⟨cs, hca, har, hku, hns, hsz, hva, hfa⟩ := RelM.bcell hE hH hM hS ha
  have hnw : nwP Γ b := nw159 hb159
  obtain ⟨hcb, hby⟩ := hM.arb hb2 hnw
  have ng : ∀ z : Int32, 0 ≤ z.toInt → ¬ z < 0 := fun z hz q => by have := Int32.lt_iff_toInt_lt.mp q; simp at this; omega
  intro T hT X
  obtain ⟨-, k0, hk0, cm0, hkk0⟩ := har
  obtain ⟨-, k1, hk1, cm1, hkk1⟩ := (hE.2.1.2 1 _ rfl).1 (pLn M b) (fun j => .int (pI M b j))
  have hst : ∀ k, cs.vm ≠ .statics k := fun k h => by rw [h] at hns; cases hns
  obtain ⟨vm', X', step⟩ := X.arraycopy hx hown (hE.1 _ (w_acT _ ht) rfl args) (hE.1 _ w_acN rfl args) (hE.1 _ w_acS rfl args) (hE.1 _ w_acI rfl args) (src := adF Γ a) (dst := adF Γ b) (cs := cs) (cd := arrV (cxC Γ 1) (pLn M b) (fun j => .int (pI M b j))) (srcPos := sp) (destPos := dp) (n := n) (by rw [hT]; exact hca) (by rw [hT]; exact hcb)
    hst (fun _ h => by cases h) hku (fun h => by cases h) hk0 hk1 hkk0 hkk1 (by simp [show refKind FieldType.byte = false from rfl]) (ng _ h1) (ng _ h2) (ng _ h3)
    (by show ¬ _ > (cs.slots.size : Int); omega)
    (by show ¬ _ > ((arrV _ _ _).slots.size : Int); rw [arrV_size]; omega)
    (fun vm₁ _ i hi => by
      have hi' : i < n.toInt.toNat := hi
      have e : cs.slots.getD (sp.toNatClampNeg + i) .null = .int (pI M a (sp.toNatClampNeg + i)) := by
        rw [Array.getD_eq_getD_getElem?, hva _ (by show sp.toInt.toNat + i < _; omega)]
        rfl
      refine ⟨?_, ?_⟩
      · rw [e]
        exact fitB (hfa _ (by show sp.toInt.toNat + i < _; omega))
      · rw [e]
        exact trivial)
    (g := F0 m pc lk (.int n :: .int dp :: .ref (adF Γ b) :: .int sp :: .ref (adF Γ a) :: rest)) rfl (by rw [hml]) (rest := rest) rfl (by rw [hb]; exact hdg) hframes (by show 2 * 0 + _ + _ ≤ _; omega)
  have e1 : copied cs (arrV (cxC Γ 1) (pLn M b) (fun j => .int (pI M b j))) sp dp n = arrV (cxC Γ 1) (pLn M b) (fun j => .int (va_cpy (pI M a) (pI M b) (ixN sp) (ixN dp) (ixN n) j)) :=
    va_copiedX (fun z => .int z) cs (cxC Γ 1) (n0 := pLn M a) (pI M a) (pI M b) hva (by show sp.toInt.toNat + n.toInt.toNat ≤ _; omega)
  rw [e1] at X' step
  generalize hnc : arrV (cxC Γ 1) (pLn M b) (fun j => Value.int (va_cpy (pI M a) (pI M b) (ixN sp) (ixN dp) (ixN n) j)) = nc at X' step
  have hl : adF Γ b < H.size := (Array.getElem?_eq_some_iff.mp hcb).1
  have hheap : ((T.setVm vm').setCell (adF Γ b) nc).heap = H.setIfInBounds (adF Γ b) nc := by rw [← hT]; rfl
  have oq : ∀ q : Nat, q ≠ adF Γ b → (H.setIfInBounds (adF Γ b) nc)[q]? = H[q]? := fun q hq => by simp [Array.getElem?_setIfInBounds, Ne.symm hq]
  obtain ⟨t, a1, b1⟩ := kk _ _ (hM.upd hnw rfl rfl rfl (fun q hq => funext fun j => by
      show cpI (pI M) a b (ixN sp) (ixN dp) (ixN n) q j = _
      simp [cpI, hq]) (fun q hq => rfl) (Or.inr (Or.inr (Or.inr ⟨hb2, by
      show (H.setIfInBounds (adF Γ b) nc)[adF Γ b]? = some (arrV (cxC Γ 1) (pLn M b) (fun j => Value.int (cpI (pI M) a b (ixN sp) (ixN dp) (ixN n) b j)))
      rw [Array.getElem?_setIfInBounds, if_pos rfl, if_pos hl, ← hnc]
      congr 2
      funext j
      simp only [cpI, va_cpy, true_and], fun j => by
      show bytP (cpI (pI M) a b (ixN sp) (ixN dp) (ixN n) b j)
      unfold cpI
      split
      · rename_i hq
        exact hfa _ (by have h9 : ixN sp = sp.toInt.toNat := rfl; have h8 : ixN dp = dp.toInt.toNat := rfl; have h7 : ixN n = n.toInt.toNat := rfl; omega)
      · exact hby j⟩))) (by simp) oq) ⟨by simp; exact hS.1, fun q g1 g2 => by
      rw [oq q (fun e => g2 (by rw [e]; exact adF_A hnw))]
      exact hS.2.1 q g1 g2, fun q hq => by
      rcases List.mem_append.mp hq with h | h
      · exact hS.2.2 q h
      · obtain ⟨z, -, hz⟩ := List.mem_map.mp h
        rw [← hz]
        exact adF_A hnw⟩ _ hheap X'
  exact ⟨t, step t a1, b1⟩
theorem m_clone (hx : p.tables.exec = Jvm.exec) (hb : c.code = cc) (hml : c.maxLocals = lk.size) (hown : s.vm.findClass (cNm 17) = some m.cls) (hE : EO Γ s) (hM : RelM Γ M H) (hS : va_S (AF Γ) s.heap H locs) {a : Nat} (ha : pKd M a = 20)
    (hframes : 1 ≤ R.frames) (hlocals : (rest.map fun v => v.category).sum + 14 ≤ R.locals) (hcells : cells + 1 ≤ R.cells) (hslots : slots + pLn M a ≤ R.slots) (hdg : decode cc pc = .ok (.invokevirtual 316, 3))
    (kk : ∀ (H1 : Heap), RelM Γ (cpyM (mkN M kInt (pLn M a)) a (pSz M) 0 0 (pLn M a)) H1 → va_S (AF Γ) s.heap H1 locs → W p l e R s m args below meth c H1 locs (cells + 1) (slots + pLn M a) Q (F0 m (pc + 3) lk (.ref (adF Γ (pSz M)) :: rest))) : W p l e R s m args below meth c H locs cells slots Q (F0 m pc lk (.ref (adF Γ a) :: rest)) := by
  obtain ⟨ha45, hca⟩ := hM.arr ha
  have hlt : a < pSz M := (hM.new (by omega) (by omega) (by omega) (by omega)).2
  have ead : adF Γ (pSz M) = H.size := hM.end_ad
  obtain ⟨c00, hnm, hc00⟩ := hE.2.2.2.2.2.1
  subst hc00
  obtain ⟨c0, t0', f1, f2, f3⟩ := Cond.castable_spec (va_Nw.use (A := args) rfl hE.2.2.2.1)
  cases hnm.symm.trans f1
  intro T hT X
  obtain ⟨-, kA, hkA, comp, hkind⟩ := State.isArrayOf_alike X.warmed.alike ((hE.2.1.2 0 _ rfl).1 0 (fun _ => .null))
  obtain ⟨-, kS, hkS, compS, hkindS⟩ := (hE.2.1.2 0 _ rfl).1 0 (fun _ => .null)
  generalize hcell : arrV (cxC Γ 0) (pLn M a) (fun j => Value.int (pI M a j)) = cell at hca
  have hvm0 : cell.vm = .none := by rw [← hcell]; rfl
  have hcl0 : cell.cls = cxC Γ 0 := by rw [← hcell]; rfl
  have hsz : cell.slots.size = pLn M a := by rw [← hcell]; exact arrV_size _ _ _
  have hcellE : ({ cls := cell.cls, slots := cell.slots } : Cell) = cell := by rw [← hcell]; rfl
  obtain ⟨vm', X', st⟩ := X.cloneArray hx hown (hE.1 _ w_clM rfl args) (hE.1 _ w_clSm rfl args) (hE.1 _ w_clN rfl args) (hE.1 _ w_clI rfl args) (hE.1 _ w_clS rfl args) (a := adF Γ a) (cell := cell) (by rw [hT]; exact hca) (fun k h => by rw [hvm0] at h; cases h) (by rw [hvm0]; exact fun h => by cases h) (by rw [hcl0]; exact hnm) f2 (by rw [hcl0]; exact f3)
    (fun i v hv => by
      rw [hcl0]
      have hk' : T.vm.classes[cxC Γ 0]? = some kA := hkA
      have hfit : fits FieldType.int v = true := by
        rw [← hcell] at hv
        have hi : i < pLn M a := by have := (Array.getElem?_eq_some_iff.mp hv).1; rw [arrV_size] at this; exact this
        rw [arrV_read _ _ hi] at hv
        cases hv
        rfl
      simpa [State.fitsSlot, State.slotType?, hk', hkind] using hfit)
    (g := F0 m pc lk (.ref (adF Γ a) :: rest)) rfl (by rw [hml]) rfl (by rw [hb]; exact hdg) hframes (by show 2 * 0 + _ + 14 ≤ _; omega) hcells (by rw [hsz]; exact hslots) (hloader := by rw [hcl0]; exact Vm.clonesLoader_of_array hkS hkindS)
  rw [hcellE, hsz] at X'
  generalize hH1 : H.push cell = H1
  have z1 : H1.size = H.size + 1 := by rw [← hH1, Array.size_push]
  have e1 : H1[H.size]? = some cell := by rw [← hH1, Array.getElem?_push_size]
  have o1 : ∀ q : Nat, q < H.size → H1[q]? = H[q]? := fun q hq => by rw [← hH1, Array.getElem?_push, if_neg (Nat.ne_of_lt hq)]
  have hrel : RelM Γ (cpyM (mkN M kInt (pLn M a)) a (pSz M) 0 0 (pLn M a)) H1 := by
    refine hM.mks (n := 1) rfl (fun b hb => ?_) (fun i hi e => ?_) z1 o1
    · have hb : b ≠ pSz M := by omega
      refine ⟨?_, ?_, ?_, ?_⟩
      · show up1 _ _ _ b = _
        simp [up1, hb]
      · show up1 _ _ _ b = _
        simp [up1, hb]
      · show (fun k => cpI (upr (pI M) (pSz M) 0) a (pSz M) 0 0 (pLn M a) b k) = _
        funext k
        simp [cpI, upr, hb]
      · show (fun k => upr _ _ _ b k) = _
        funext k
        simp [upr, hb]
    · obtain rfl : i = 0 := by omega
      refine Or.inr (Or.inl ⟨if_pos rfl, ?_⟩)
      simp only [Nat.add_zero] at e ⊢
      rw [e, e1, ← hcell, show pLn (cpyM (mkN M kInt (pLn M a)) a (pSz M) 0 0 (pLn M a)) (pSz M) = pLn M a from if_pos rfl]
      have hext : arrV (cxC Γ 0) (pLn M a) (fun j => Value.int (pI M a j)) = arrV (cxC Γ 0) (pLn M a) (fun j => Value.int (pI (cpyM (mkN M kInt (pLn M a)) a (pSz M) 0 0 (pLn M a)) (pSz M) j)) := by
        unfold arrV
        congr 1
        apply congrArg
        funext j
        have hj := j.isLt
        show _ = Value.int (cpI (upr (pI M) (pSz M) 0) a (pSz M) 0 0 (pLn M a) (pSz M) j.val)
        have hne : a ≠ pSz M := by omega
        simp [cpI, upr, hne, hj]
      rw [hext]
  obtain ⟨t, b1, b2⟩ := kk H1 hrel ⟨Nat.le_trans hS.1 (by omega), fun y h1 h2 => (o1 y (Nat.lt_of_lt_of_le h1 hS.1)).trans (hS.2.1 y h1 h2), hS.2.2⟩
    ((T.setVm vm').pushCell cell) (by rw [← hH1, ← hT]; rfl) X'
  refine ⟨t, st t ?_, b2⟩
  rw [hcellE, hT]
  rw [ead] at b1
  exact b1
theorem m_cloneB (hx : p.tables.exec = Jvm.exec) (hb : c.code = cc) (hml : c.maxLocals = lk.size) (hown : s.vm.findClass (cNm 17) = some m.cls) (hE : EO Γ s) (hM : RelM Γ M H) (hS : va_S (AF Γ) s.heap H locs) {a : Nat} (ha : pKd M a = 21) (hn : 159 ≤ a)
    (hframes : 1 ≤ R.frames) (hlocals : (rest.map fun v => v.category).sum + 14 ≤ R.locals) (hcells : cells + 1 ≤ R.cells) (hslots : slots + pLn M a ≤ R.slots) (hdg : decode cc pc = .ok (.invokevirtual 310, 3))
    (kk : ∀ (H1 : Heap), RelM Γ (cpyM (mkN M kByt (pLn M a)) a (pSz M) 0 0 (pLn M a)) H1 → va_S (AF Γ) s.heap H1 locs → W p l e R s m args below meth c H1 locs (cells + 1) (slots + pLn M a) Q (F0 m (pc + 3) lk (.ref (adF Γ (pSz M)) :: rest))) : W p l e R s m args below meth c H locs cells slots Q (F0 m pc lk (.ref (adF Γ a) :: rest)) := by
  have hnw : nwP Γ a := nw159 hn
  obtain ⟨hca, hby⟩ := hM.arb ha hnw
  have hlt : a < pSz M := Nat.not_le.mp fun q => by
    have := hM.2.2.2.2.1 a q
    omega
  have ead : adF Γ (pSz M) = H.size := hM.end_ad
  obtain ⟨c00, hnm, hc00⟩ := hE.2.2.2.2.2.2.2.1
  subst hc00
  obtain ⟨c0, t0', f1, f2, f3⟩ := Cond.castable_spec (va_Nw.use (A := args) rfl hE.2.2.2.2.2.2.1)
  cases hnm.symm.trans f1
  intro T hT X
  obtain ⟨-, kA, hkA, comp, hkind⟩ := State.isArrayOf_alike X.warmed.alike ((hE.2.1.2 1 _ rfl).1 0 (fun _ => .null))
  obtain ⟨-, kS, hkS, compS, hkindS⟩ := (hE.2.1.2 1 _ rfl).1 0 (fun _ => .null)
  generalize hcell : arrV (cxC Γ 1) (pLn M a) (fun j => Value.int (pI M a j)) = cell at hca
  have hvm0 : cell.vm = .none := by rw [← hcell]; rfl
  have hcl0 : cell.cls = cxC Γ 1 := by rw [← hcell]; rfl
  have hsz : cell.slots.size = pLn M a := by rw [← hcell]; exact arrV_size _ _ _
  have hcellE : ({ cls := cell.cls, slots := cell.slots } : Cell) = cell := by rw [← hcell]; rfl
  obtain ⟨vm', X', st⟩ := X.cloneArray hx hown (hE.1 _ w_clMB rfl args) (hE.1 _ w_clSmB rfl args) (hE.1 _ w_clN rfl args) (hE.1 _ w_clI rfl args) (hE.1 _ w_clSB rfl args) (a := adF Γ a) (cell := cell) (by rw [hT]; exact hca) (fun k h => by rw [hvm0] at h; cases h) (by rw [hvm0]; exact fun h => by cases h) (by rw [hcl0]; exact hnm) f2 (by rw [hcl0]; exact f3)
    (fun i v hv => by
      rw [hcl0]
      have hk' : T.vm.classes[cxC Γ 1]? = some kA := hkA
      have hfit : fits FieldType.byte v = true := by
        rw [← hcell] at hv
        have hi : i < pLn M a := by have := (Array.getElem?_eq_some_iff.mp hv).1; rw [arrV_size] at this; exact this
        rw [arrV_read _ _ hi] at hv
        cases hv
        exact fitB (hby i)
      simpa [State.fitsSlot, State.slotType?, hk', hkind] using hfit)
    (g := F0 m pc lk (.ref (adF Γ a) :: rest)) rfl (by rw [hml]) rfl (by rw [hb]; exact hdg) hframes (by show 2 * 0 + _ + 14 ≤ _; omega) hcells (by rw [hsz]; exact hslots) (hloader := by rw [hcl0]; exact Vm.clonesLoader_of_array hkS hkindS)
  rw [hcellE, hsz] at X'
  generalize hH1 : H.push cell = H1
  have z1 : H1.size = H.size + 1 := by rw [← hH1, Array.size_push]
  have e1 : H1[H.size]? = some cell := by rw [← hH1, Array.getElem?_push_size]
  have o1 : ∀ q : Nat, q < H.size → H1[q]? = H[q]? := fun q hq => by rw [← hH1, Array.getElem?_push, if_neg (Nat.ne_of_lt hq)]
  have hrel : RelM Γ (cpyM (mkN M kByt (pLn M a)) a (pSz M) 0 0 (pLn M a)) H1 := by
    refine hM.mks (n := 1) rfl (fun b hb => ?_) (fun i hi e => ?_) z1 o1
    · have hb : b ≠ pSz M := by omega
      refine ⟨?_, ?_, ?_, ?_⟩
      · show up1 _ _ _ b = _
        simp [up1, hb]
      · show up1 _ _ _ b = _
        simp [up1, hb]
      · show (fun k => cpI (upr (pI M) (pSz M) 0) a (pSz M) 0 0 (pLn M a) b k) = _
        funext k
        simp [cpI, upr, hb]
      · show (fun k => upr _ _ _ b k) = _
        funext k
        simp [upr, hb]
    · obtain rfl : i = 0 := by omega
      refine Or.inr (Or.inr (Or.inr ⟨if_pos rfl, ?_, fun j => ?_⟩))
      rotate_left
      · rw [Nat.add_zero]
        show bytP (cpI (upr (pI M) (pSz M) 0) a (pSz M) 0 0 (pLn M a) (pSz M) j)
        have hne : a ≠ pSz M := by omega
        unfold cpI upr
        rw [if_neg hne]
        split
        · exact hby _
        · rw [if_pos rfl]
          exact bytP0
      simp only [Nat.add_zero] at e ⊢
      rw [e, e1, ← hcell, show pLn (cpyM (mkN M kByt (pLn M a)) a (pSz M) 0 0 (pLn M a)) (pSz M) = pLn M a from if_pos rfl]
      have hext : arrV (cxC Γ 1) (pLn M a) (fun j => Value.int (pI M a j)) = arrV (cxC Γ 1) (pLn M a) (fun j => Value.int (pI (cpyM (mkN M kByt (pLn M a)) a (pSz M) 0 0 (pLn M a)) (pSz M) j)) := by
        unfold arrV
        congr 1
        apply congrArg
        funext j
        have hj := j.isLt
        show _ = Value.int (cpI (upr (pI M) (pSz M) 0) a (pSz M) 0 0 (pLn M a) (pSz M) j.val)
        have hne : a ≠ pSz M := by omega
        simp [cpI, upr, hne, hj]
      rw [hext]
  obtain ⟨t, b1, b2⟩ := kk H1 hrel ⟨Nat.le_trans hS.1 (by omega), fun y h1 h2 => (o1 y (Nat.lt_of_lt_of_le h1 hS.1)).trans (hS.2.1 y h1 h2), hS.2.2⟩
    ((T.setVm vm').pushCell cell) (by rw [← hH1, ← hT]; rfl) X'
  refine ⟨t, st t ?_, b2⟩
  rw [hcellE, hT]
  rw [ead] at b1
  exact b1
theorem m_ccI (hx : p.tables.exec = Jvm.exec) (hb : c.code = cc) (hown : s.vm.findClass (cNm 17) = some m.cls) (hE : EO Γ s) (hM : RelM Γ M H) {a : Nat} (ha : pKd M a = 20) (hdg : decode cc pc = .ok (.checkcast 317, 3))
    (kk : W p l e R s m args below meth c H locs cells slots Q (F0 m (pc + 3) lk (.ref (adF Γ a) :: rest))) : W p l e R s m args below meth c H locs cells slots Q (F0 m pc lk (.ref (adF Γ a) :: rest)) := by
  obtain ⟨ha45, hca⟩ := hM.arr ha
  obtain ⟨c00, hnm, hc00⟩ := hE.2.2.2.2.2.1
  subst hc00
  intro T hT X
  obtain ⟨vm', X', st⟩ := X.checkcastYes hx hown (hE.1 _ w_ccL rfl args) (by rw [hT]; exact hca) rfl hnm (va_asg _ _) (g := F0 m pc lk (.ref (adF Γ a) :: rest)) rfl rfl (by rw [hb]; exact hdg)
  obtain ⟨t, a1, b1⟩ := kk (T.setVm vm') hT X'
  exact ⟨t, st t a1, b1⟩
theorem m_ccB (hx : p.tables.exec = Jvm.exec) (hb : c.code = cc) (hown : s.vm.findClass (cNm 17) = some m.cls) (hE : EO Γ s) (hM : RelM Γ M H) {a : Nat} (ha : pKd M a = 21) (hn : 159 ≤ a) (hdg : decode cc pc = .ok (.checkcast 311, 3))
    (kk : W p l e R s m args below meth c H locs cells slots Q (F0 m (pc + 3) lk (.ref (adF Γ a) :: rest))) : W p l e R s m args below meth c H locs cells slots Q (F0 m pc lk (.ref (adF Γ a) :: rest)) := by
  obtain ⟨hca, -⟩ := hM.arb ha (nw159 hn)
  obtain ⟨c00, hnm, hc00⟩ := hE.2.2.2.2.2.2.2.1
  subst hc00
  intro T hT X
  obtain ⟨vm', X', st⟩ := X.checkcastYes hx hown (hE.1 _ w_ccLB rfl args) (by rw [hT]; exact hca) rfl hnm (va_asg _ _) (g := F0 m pc lk (.ref (adF Γ a) :: rest)) rfl rfl (by rw [hb]; exact hdg)
  obtain ⟨t, a1, b1⟩ := kk (T.setVm vm') hT X'
  exact ⟨t, st t a1, b1⟩
theorem m_ldcS (hx : p.tables.exec = Jvm.exec) (hb : c.code = cc) {o i a : Nat} (hown : s.vm.findClass (cNm o) = some m.cls) (hE : EO Γ s) (ht : (o, i, a) ∈ sTab) (hG : cxG Γ ≤ 106) (hdg : decode cc pc = .ok (.ldc i, 2))
    (kk : W p l e R s m args below meth c H locs cells slots Q (F0 m (pc + 2) lk (.ref (adF Γ a) :: rest))) : W p l e R s m args below meth c H locs cells slots Q (F0 m pc lk rest) := by
  obtain ⟨tx, h⟩ := hE.2.2.1 _ ht
  have e1 : adF Γ a = cxA Γ a := by
    have : sTab.all (fun t => (Nat.blt t.2.2 45 || Nat.ble 106 t.2.2) && Nat.blt t.2.2 159) = true := by decide +kernel
    have := List.all_eq_true.mp this _ ht
    simp at this
    exact adF_old this.1 this.2 hG
  rw [e1] at kk
  exact va_ldcS hx hb hown h hdg kk
theorem m_ldcSw (hx : p.tables.exec = Jvm.exec) (hb : c.code = cc) {o i a : Nat} (hown : s.vm.findClass (cNm o) = some m.cls) (hE : EO Γ s) (ht : (o, i, a) ∈ sTab) (hG : cxG Γ ≤ 106) (hdg : decode cc pc = .ok (.ldc_w i, 3))
    (kk : W p l e R s m args below meth c H locs cells slots Q (F0 m (pc + 3) lk (.ref (adF Γ a) :: rest))) : W p l e R s m args below meth c H locs cells slots Q (F0 m pc lk rest) := by
  obtain ⟨tx, hconst, hev⟩ := hE.2.2.1 _ ht
  have e1 : adF Γ a = cxA Γ a := by
    have : sTab.all (fun t => (Nat.blt t.2.2 45 || Nat.ble 106 t.2.2) && Nat.blt t.2.2 159) = true := by decide +kernel
    have := List.all_eq_true.mp this _ ht
    simp at this
    exact adF_old this.1 this.2 hG
  rw [e1] at kk
  intro T hT X
  obtain ⟨t, a1, b1⟩ := kk T hT X
  refine ⟨t, ?_, b1⟩
  obtain ⟨k, cf, i', a', hk, hcf, hcp, -, hr, hev'⟩ := Cond.stringRef_spec hown hconst
  cases hev.symm.trans hev'
  obtain ⟨k', hk', he⟩ := X.warmed.alike.2.2 _ _ hk
  have hr' : k'.resolved[i]? = some (some (.string (cxA Γ a))) := by
    rcases X.warmed.entry hk hk' i with h | ⟨h, -⟩
    · rw [h]; exact hr
    · rw [hr] at h; cases h
  jvm_step X.here [hx, hb, hdg, ldc_w.wp_string (e := e) (s := T) (f := F0 m pc lk rest) X.here.top hk' (by rw [he]; exact hcf) hcp hr']
  exact a1
end MEMA
