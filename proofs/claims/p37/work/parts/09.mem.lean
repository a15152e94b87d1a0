/-! Memory instructions over the machine, in the words of the pure memory. -/
section MEMI
variable {p : Program} {l : Launch} {e : Env} {R : Room} {s : State} {m : MethodId} {args : Array Value} {below : List Frame} {meth : Method} {c : Code} {H : Heap} {locs : List Loc} {cells slots : Nat} {Q : State → Prop}
variable {Γ : CX} {pc : Nat} {lk : Array Slot} {rest : List Value} {cc : ByteArray} {M : PM}
theorem bytP_rng {x : Int32} (h : bytP x) : -128 ≤ x ∧ x ≤ 127 := by
  have e : x.toInt = x.toInt8.toInt := by
    have := Int8.toInt_toInt32 x.toInt8
    rw [show x.toInt8.toInt32 = x from h] at this
    exact this
  have h1 := Int8.le_toInt x.toInt8
  have h2 := Int8.toInt_lt x.toInt8
  refine ⟨Int32.le_iff_toInt_le.mpr ?_, Int32.le_iff_toInt_le.mpr ?_⟩
  · show (-128 : Int) ≤ _
    omega
  · show _ ≤ (127 : Int)
    omega
theorem RelM.obj (hM : RelM Γ M H) {a k0 : Nat} (ha : pKd M a = k0) (hk0 : k0 < 14) (hn : nwP Γ a) : t_OB (adF Γ a) ((cxD Γ).1 k0) (nfL.getD k0 0) ((cxD Γ).2 k0) H (fun k => teF Γ M a k0 k) := by
  subst ha
  have hlt : a < pSz M := Nat.not_le.mp fun q => by
    have := hM.2.2.2.2.1 a q
    omega
  rcases hM.2.2.1 a hn hlt with ⟨-, q⟩ | ⟨q, -⟩ | ⟨q, -⟩ | ⟨q, -⟩
  · exact q
  · omega
  · omega
  · omega
theorem RelM.nw13 (hM : RelM Γ M H) {a : Nat} (ha : pKd M a < 13) : nwP Γ a := (hM.new (a := a) (by omega) (by omega) (by omega) (by omega)).1
theorem RelM.arr (hM : RelM Γ M H) {a : Nat} (ha : pKd M a = 20) : nwP Γ a ∧ H[adF Γ a]? = some (arrV (cxC Γ 0) (pLn M a) (fun j => .int (pI M a j))) := by
  obtain ⟨hn, hlt⟩ := hM.new (a := a) (by omega) (by omega) (by omega) (by omega)
  refine ⟨hn, ?_⟩
  rcases hM.2.2.1 a hn hlt with ⟨q, -⟩ | ⟨-, q⟩ | ⟨q, -⟩ | ⟨q, -⟩
  · omega
  · exact q
  · omega
  · omega
theorem RelM.arq (hM : RelM Γ M H) {a : Nat} (ha : 22 ≤ pKd M a ∧ pKd M a < 28) : nwP Γ a ∧ H[adF Γ a]? = some (arrV (cxC Γ (pKd M a - 20)) (pLn M a) (fun j => va_rf ((pR M a j).map (adF Γ)))) := by
  obtain ⟨hn, hlt⟩ := hM.new (a := a) (by omega) (by omega) (by omega) (by omega)
  refine ⟨hn, ?_⟩
  rcases hM.2.2.1 a hn hlt with ⟨q, -⟩ | ⟨q, -⟩ | ⟨-, -, q⟩ | ⟨q, -⟩
  · omega
  · omega
  · exact q
  · omega
/-- a new row of bytes -/
theorem RelM.arb (hM : RelM Γ M H) {a : Nat} (ha : pKd M a = 21) (hn : nwP Γ a) : H[adF Γ a]? = some (arrV (cxC Γ 1) (pLn M a) (fun j => .int (pI M a j))) ∧ ∀ j, bytP (pI M a j) := by
  have hlt : a < pSz M := Nat.not_le.mp fun q => by
    have := hM.2.2.2.2.1 a q
    omega
  rcases hM.2.2.1 a hn hlt with ⟨q, -⟩ | ⟨q, -⟩ | ⟨q, q2, -⟩ | ⟨-, q⟩
  · omega
  · omega
  · omega
  · exact q
theorem nw159 {a : Nat} (h : 159 ≤ a) : nwP Γ a := Or.inl h
theorem teF_eq {M' : PM} {a c0 k : Nat} (h3 : pI M' a k = pI M a k) (h4 : pR M' a k = pR M a k) : teF Γ M' a c0 k = teF Γ M a c0 k := by
  unfold teF
  rw [h3, h4]
theorem m_get (hx : p.tables.exec = Jvm.exec) (hb : c.code = cc) {o i k0 k a : Nat} (hown : s.vm.findClass (cNm o) = some m.cls) (hE : EO Γ s) (hM : RelM Γ M H) (ha : pKd M a = k0) (hk0 : k0 < 14) (hnw : nwP Γ a) (hk : k < nfL.getD k0 0) (ht : (o, i, k0, k) ∈ fTab)
    (hdg : decode cc pc = .ok (.getfield i, 3)) (kk : W p l e R s m args below meth c H locs cells slots Q (F0 m (pc + 3) lk (teF Γ M a k0 k :: rest))) : W p l e R s m args below meth c H locs cells slots Q (F0 m pc lk (.ref (adF Γ a) :: rest)) := by
  obtain ⟨T, N, ty, hc, hN, hws, hty, hnm, -, hnms⟩ := clF_all hE _ hk0
  obtain ⟨cell, q1, q2, q3, q4⟩ := hM.obj ha hk0 hnw
  obtain ⟨hS, hfc, kC, hkC, hkind⟩ := hE.2.1.1 _ _ hc
  rw [← hN] at q4 hk
  obtain ⟨cf, kf, fi, f, hi, hsl⟩ := hS k hk
  obtain ⟨n1, n2, n3, -⟩ := hnms k hk
  have hst := (u_facts hfc hkC (u_lays (fun w hw => hws args w hw) (fun w h => h) hk) hi).1
  have hi' : s.fieldFound? (fCl k0 k) (fNm k0 k) (fDs k0 k) = some (cf, kf, fi, f) := by rw [← n1, ← n2, ← n3]; exact hi
  obtain ⟨b, hw⟩ := w_fT _ ht
  cases b with
  | true =>
    refine va_Wgetf hx hb hown (hE.1 _ hw rfl args) hi' hst q1 (by rw [q3]; exact fun h => by cases h) (v := teF Γ M a k0 k) ?_ rfl rfl hdg kk
    rw [hsl]
    exact q4 k hk
  | false =>
    refine W.getf hx hb hown (hE.1 _ hw rfl args) hi' hst q1 (by rw [q3]; exact fun h => by cases h) (v := teF Γ M a k0 k) ?_ rfl rfl hdg kk
    rw [hsl]
    exact q4 k hk
theorem m_getS (hx : p.tables.exec = Jvm.exec) (hb : c.code = cc) {o i k a : Nat} (hown : s.vm.findClass (cNm o) = some m.cls) (hE : EO Γ s) (hH : EH Γ s s.heap) (hM : RelM Γ M H) (hS : va_S (AF Γ) s.heap H locs) {j : Nat} (hj : j < nStr) (ea : a = plS j) (hk : k < 2) (ht : (o, i, 13, k) ∈ fTab)
    (hdg : decode cc pc = .ok (.getfield i, 3)) (kk : W p l e R s m args below meth c H locs cells slots Q (F0 m (pc + 3) lk (teF Γ M a 13 k :: rest))) : W p l e R s m args below meth c H locs cells slots Q (F0 m pc lk (.ref (adF Γ a) :: rest)) := by
  subst ea
  obtain ⟨-, -, -, h1, -, -⟩ := hM.2.2.2.1
  have hG := hM.2.2.2.2.2.2
  have hp := plS_lt hj
  obtain ⟨-, z2, z3, -⟩ := h1 j hj
  obtain ⟨g1, g2, g3, g4⟩ := hH.1 j hj
  have e1 : adF Γ (plS j) = cxA Γ (plS j) := adF_old (by omega) (by omega) hG
  have e2 : adF Γ (plS j + 1) = cxA Γ (plS j + 1) := adF_old (by omega) (by omega) hG
  obtain ⟨b, hw, hwp⟩ := w_fT2 _ ht
  rw [e1]
  rcases (by omega : k = 0 ∨ k = 1) with rfl | rfl
  · have et : teF Γ M (plS j) 13 0 = .ref (cxA Γ (plS j + 1)) := by
      show va_rf ((pR M (plS j) 0).map (adF Γ)) = _
      rw [z2]
      show Value.ref (adF Γ _) = _
      rw [e2]
    rw [et] at kk
    cases b with
    | true => exact absurd hwp (by simp)
    | false => exact vk_getf hx hb g3 hS hown (hE.1 _ hw rfl args) (fun _ h => h) hdg kk
  · have et : teF Γ M (plS j) 13 1 = .int 0 := by
      show Value.int (pI M (plS j) 1) = _
      rw [z3]
    rw [et] at kk
    cases b with
    | true => exact absurd hwp (by simp)
    | false => exact vk_getf hx hb g2 hS hown (hE.1 _ hw rfl args) (fun _ h => h) hdg kk
/-- a final field is found in its own class -/
theorem fCl_own0 : (List.range 14).all (fun c => (List.range (nfL.getD c 0)).all (fun k => !((fnL.getD c []).getD k true) || decide (fCl c k = cNm c))) = true := by decide +kernel
theorem fCl_own {c k : Nat} (hc : c < 14) (hk : k < nfL.getD c 0) (h : (fnL.getD c []).getD k true = true) : fCl c k = cNm c := by
  have := List.all_eq_true.mp (List.all_eq_true.mp fCl_own0 c (List.mem_range.mpr hc)) k (List.mem_range.mpr hk)
  rw [h] at this
  simpa using this
theorem m_put (hx : p.tables.exec = Jvm.exec) (hb : c.code = cc) {o i k0 k a : Nat} (hown : s.vm.findClass (cNm o) = some m.cls) (hE : EO Γ s) (hM : RelM Γ M H) (hS : va_S (AF Γ) s.heap H locs) (ha : pKd M a = k0) (hk0 : k0 < 14) (hnw : nwP Γ a) (hk : k < nfL.getD k0 0) (ht : (o, i, k0, k) ∈ fTab)
    (hfin : (fnL.getD k0 []).getD k true = false ∨ (meth.name = "<init>" ∧ o = k0)) {v : Value} {M' : PM} (h0 : pSz M' = pSz M) (h1 : pKd M' = pKd M) (h2 : pLn M' = pLn M) (h3 : ∀ b j, b ≠ a ∨ j ≠ k → pI M' b j = pI M b j) (h4 : ∀ b j, b ≠ a ∨ j ≠ k → pR M' b j = pR M b j) (hv : teF Γ M' a k0 k = v)
    (hty : (XF.2 k0 k = 0 ∧ ∃ x, v = .int x) ∨ (XF.2 k0 k = 2 ∧ (v = .int 0 ∨ v = .int 1)) ∨ (XF.2 k0 k = 1 ∧ ∃ r, v = va_rf r) ∨ (XF.2 k0 k = 3 ∧ ∃ x, v = .int x ∧ bytP x))
    (hdg : decode cc pc = .ok (.putfield i, 3)) (kk : ∀ (H1 : Heap) (locs1 : List Loc), RelM Γ M' H1 → va_S (AF Γ) s.heap H1 locs1 → W p l e R s m args below meth c H1 locs1 cells slots Q (F0 m (pc + 3) lk rest)) : W p l e R s m args below meth c H locs cells slots Q (F0 m pc lk (v :: .ref (adF Γ a) :: rest)) := by
  obtain ⟨T, N, ty, hc, hN, hws, hpt, hnm, hxf, hnms⟩ := clF_all hE _ hk0
  obtain ⟨cell, q1, q2, q3, q4⟩ := hM.obj ha hk0 hnw
  obtain ⟨hSl, hfc, kC, hkC, hkind⟩ := hE.2.1.1 _ _ hc
  have hap := va_apart (own := cNm o) (fun w hw => hws args w hw) (fun w h => h) ty hpt hnm hE.2.1 hc
  rw [← hN] at q4 hk
  obtain ⟨cf, kf, fi, f, hi, hsl⟩ := hSl k hk
  obtain ⟨n1, n2, n3, n4⟩ := hnms k hk
  have hlay0 := hws args _ (u_in_lay hk)
  have hst := (u_facts hfc hkC (u_lays (fun w hw => hws args w hw) (fun w h => h) hk) hi).1
  have hi' : s.fieldFound? (fCl k0 k) (fNm k0 k) (fDs k0 k) = some (cf, kf, fi, f) := by rw [← n1, ← n2, ← n3]; exact hi
  have hnf : narrow (ty k) v = v ∧ fits (ty k) v = true := by
    have e0 := hxf k hk
    rcases hty with ⟨q, x, rfl⟩ | ⟨q, rfl | rfl⟩ | ⟨q, r, rfl⟩ | ⟨q, x, rfl, hbx⟩
    · rw [q] at e0
      cases hq : ty k <;> rw [hq] at e0 <;> first | exact ⟨rfl, rfl⟩ | cases e0
    · rw [q] at e0
      cases hq : ty k <;> rw [hq] at e0 <;> first | exact ⟨rfl, rfl⟩ | cases e0
    · rw [q] at e0
      cases hq : ty k <;> rw [hq] at e0 <;> first | exact ⟨rfl, rfl⟩ | cases e0
    · rw [q] at e0
      cases hq : ty k <;> rw [hq] at e0 <;> first | (cases r <;> exact ⟨rfl, rfl⟩) | cases e0
    · rw [q] at e0
      cases hq : ty k <;> rw [hq] at e0 <;> first | exact ⟨congrArg Value.int hbx, by have h9 : narrow .byte (.int x) = .int x := congrArg Value.int hbx; have h8 := bytP_rng hbx; simp [fits, h8.1, h8.2]⟩ | cases e0
  have hrel : ∀ H' : Heap, H'[adF Γ a]? = some (cell.setSlot ((cxD Γ).2 k0 k) v) → H'.size = H.size → (∀ q, q ≠ adF Γ a → H'[q]? = H[q]?) → RelM Γ M' H' := by
    intro H' e1 e2 e3
    refine hM.upd hnw h0 h1 h2 (fun b hb => funext fun j => h3 b j (Or.inl hb)) (fun b hb => funext fun j => h4 b j (Or.inl hb)) (Or.inl ⟨by rw [h1, ha]; exact hk0, ?_⟩) e2 e3
    rw [h1, ha]
    refine ⟨_, e1, q2, q3, fun j hj => ?_⟩
    rw [← hN] at hj
    rw [t_set q4 hap hk v j hj]
    by_cases hjk : j = k
    · subst hjk
      simp [updV, hv]
    · simp only [updV, if_neg hjk]
      rw [teF_eq (h3 a j (Or.inr hjk)) (h4 a j (Or.inr hjk))]
  obtain ⟨b, hw, hwp⟩ := w_fT2 _ ht
  by_cases hff : (T k).2.2.2 = true
  · have hi2 : meth.name = "<init>" ∧ o = k0 := by
      rcases hfin with q | q
      · rw [n4, q] at hff
        cases hff
      · exact q
    have hlay := hlay0
    unfold u_lay at hlay
    rw [if_pos hff] at hlay
    have hcf : m.cls = cf := by
      obtain ⟨_, _, c', _, _, _, -, -, hf', -, -, -, hown2, -⟩ := Cond.laysFinal_spec hlay
      have e1 : c' = cf := by have := hi.symm.trans hf'; simp at this; exact this.1.symm
      rw [n1, fCl_own hk0 (by rw [← hN]; exact hk) (by rw [← n4]; exact hff), ← hi2.2] at hown2
      rw [← e1]
      exact Option.some.inj (hown.symm.trans hown2)
    have h6 := u_fits hfc hkC hkind (Or.inr hlay) hi (hpt k hk) hnf.1 hnf.2
    cases b with
    | true => exact absurd hwp (by simp [hi2.2])
    | false =>
      refine W.putFinK hx hb hown (hE.1 _ hw rfl args) hi' hst hcf hi2.1 (by rw [q2]; exact h6) q1 q3 (by rw [hsl]; exact k2_hasslot (q4 k hk)) rfl rfl hdg fun H' e1 e2 e3 => ?_
      rw [hsl] at e1 ⊢
      exact kk H' _ (hrel H' e1 e2 e3) (hS.put e2 e3 (adF_A hnw))
  · have hlay := hlay0
    unfold u_lay at hlay
    rw [if_neg hff] at hlay
    have h6 := u_store hfc hkC hkind hlay hi (hpt k hk) hnf.1 hnf.2
    cases b with
    | true =>
      refine va_WputK hx hb (f := f) hown (hE.1 _ hw rfl args) hi' hst (by rw [q2]; exact h6) q1 q3 (by rw [hsl]; exact k2_hasslot (q4 k hk)) rfl rfl hdg fun H' e1 e2 e3 => ?_
      rw [hsl] at e1 ⊢
      exact kk H' _ (hrel H' e1 e2 e3) (hS.put e2 e3 (adF_A hnw))
    | false =>
      refine W.putK hx hb (f := f) ⟨hown, hE.1 _ hw rfl args, ⟨_, _, _, hi'⟩, hst⟩ (by rw [q2]; exact h6) q1 q3 (by rw [hsl]; exact k2_hasslot (q4 k hk)) rfl rfl hdg fun H' e1 e2 e3 => ?_
      rw [hsl] at e1 ⊢
      exact kk H' _ (hrel H' e1 e2 e3) (hS.put e2 e3 (adF_A hnw))
theorem m_new (hx : p.tables.exec = Jvm.exec) (hb : c.code = cc) {o i k0 : Nat} (hown : s.vm.findClass (cNm o) = some m.cls) (hE : EO Γ s) (hM : RelM Γ M H) (hS : va_S (AF Γ) s.heap H locs) (hk0 : k0 < 14) (ht : (o, i, k0) ∈ nTab) (hcells : cells + 1 ≤ R.cells) (hslots : slots + nfL.getD k0 0 ≤ R.slots)
    (hdg : decode cc pc = .ok (.new i, 3)) (kk : ∀ (H1 : Heap), RelM Γ (mkN M k0 (nfL.getD k0 0)) H1 → va_S (AF Γ) s.heap H1 locs → W p l e R s m args below meth c H1 locs (cells + 1) (slots + nfL.getD k0 0) Q (F0 m (pc + 3) lk (.ref (adF Γ (pSz M)) :: rest))) : W p l e R s m args below meth c H locs cells slots Q (F0 m pc lk rest) := by
  obtain ⟨T, N, ty, hc, hN, hws, hpt, hnm, hxf, hnms⟩ := clF_all hE _ hk0
  have hKn := hE.2.1.1 _ _ hc
  have ead : adF Γ (pSz M) = H.size := hM.end_ad
  refine W.newcK hx hb hown (hE.1 _ (w_nT _ ht) rfl args) (hE.1 _ (w_new hk0) rfl args) (hE.1 _ (w_init (Nat.lt_trans hk0 (by decide))) rfl args) rfl hdg hcells hslots hKn.2.1 rfl fun H1 kC hkC e1 z1 o1 => ?_
  rw [← ead]
  refine kk H1 (hM.mk (fun M' hM' hq => Or.inl ⟨?_, ?_⟩) z1 o1) ⟨Nat.le_trans hS.1 (by omega), fun x h1 h2 => (o1 x (Nat.lt_of_lt_of_le h1 hS.1)).trans (hS.2.1 x h1 h2), hS.2.2⟩
  · rw [hM', show pKd (mkN M k0 (nfL.getD k0 0)) (pSz M) = k0 from if_pos rfl]
    exact hk0
  · rw [hM', show pKd (mkN M k0 (nfL.getD k0 0)) (pSz M) = k0 from if_pos rfl, hq, ← hN]
    refine (u_born ty (fun w hw => hws args w hw) (fun w h => h) hKn hkC e1 hpt).to (fun k hk => ?_)
    have e0 := hxf k hk
    unfold teF
    have r1 : pI (mkN M k0 N) (pSz M) k = 0 := if_pos rfl
    have r2 : pR (mkN M k0 N) (pSz M) k = none := if_pos rfl
    rw [r1, r2, e0]
    have hq2 : tyCd (ty k) ≠ 9 := by
      rw [← e0]
      have : (List.range 14).all (fun c => (List.range (nfL.getD c 0)).all (fun k => !decide (XF.2 c k = 9))) = true := by decide +kernel
      have z1 := List.all_eq_true.mp (List.all_eq_true.mp this k0 (List.mem_range.mpr hk0)) k (List.mem_range.mpr (by rw [← hN]; exact hk))
      simpa using z1
    cases hq : ty k <;> rw [hq] at hq2 <;> first | rfl | exact absurd rfl hq2
theorem m_newi (hx : p.tables.exec = Jvm.exec) (hb : c.code = cc) (hE : EO Γ s) (hM : RelM Γ M H) (hS : va_S (AF Γ) s.heap H locs) {n : Int32} (h1 : 0 ≤ n.toInt) (h2 : n.toInt ≤ 100000) (hcells : cells + 1 ≤ R.cells) (hslots : slots + ixN n ≤ R.slots)
    (hdg : decode cc pc = .ok (.newarray .int, 2)) (kk : ∀ (H1 : Heap), RelM Γ (mkN M kInt (ixN n)) H1 → va_S (AF Γ) s.heap H1 locs → W p l e R s m args below meth c H1 locs (cells + 1) (slots + ixN n) Q (F0 m (pc + 2) lk (.ref (adF Γ (pSz M)) :: rest))) : W p l e R s m args below meth c H locs cells slots Q (F0 m pc lk (.int n :: rest)) := by
  have ead : adF Γ (pSz M) = H.size := hM.end_ad
  have hn : ¬ n < 0 := fun q => by have := Int32.lt_iff_toInt_lt.mp q; simp at this; omega
  refine va_newaK (atype := .int) (N := ixN n) hx hb (hE.1 _ w_aci rfl args) rfl hdg rfl hn rfl (by show ixN n * 4 ≤ _; unfold ixN; omega) hcells hslots rfl fun H1 cA e1 z1 o1 hAr hfc => ?_
  rw [← ead]
  have hcA : cA = cxC Γ 0 := by
    obtain ⟨c0, g1, g2⟩ := hE.2.2.2.2.2.1
    have : s.vm.findClass "[I" = some cA := hfc
    rw [g1] at this
    cases this
    exact g2
  refine kk H1 (hM.mk (fun M' hM' hq => Or.inr (Or.inl ⟨?_, ?_⟩)) z1 o1) ⟨Nat.le_trans hS.1 (by omega), fun x h1 h2 => (o1 x (Nat.lt_of_lt_of_le h1 hS.1)).trans (hS.2.1 x h1 h2), hS.2.2⟩
  · rw [hM']
    exact if_pos rfl
  · rw [hM', hq, e1, hcA, show pLn (mkN M kInt (ixN n)) (pSz M) = ixN n from if_pos rfl]
    congr 1
    have : (fun j => Value.int (pI (mkN M kInt (ixN n)) (pSz M) j)) = fun _ => Value.int 0 := funext fun j => by rw [show pI (mkN M kInt (ixN n)) (pSz M) j = 0 from if_pos rfl]
    rw [this]
    rfl
theorem m_newq (hx : p.tables.exec = Jvm.exec) (hb : c.code = cc) {o i k0 : Nat} (hown : s.vm.findClass (cNm o) = some m.cls) (hE : EO Γ s) (hM : RelM Γ M H) (hS : va_S (AF Γ) s.heap H locs) (hk : 22 ≤ k0 ∧ k0 < 27) (ht : (o, i, eCl k0) ∈ nTab) {n : Int32} (h1 : 0 ≤ n.toInt) (h2 : n.toInt ≤ 100000) (hcells : cells + 1 ≤ R.cells) (hslots : slots + ixN n ≤ R.slots)
    (hdg : decode cc pc = .ok (.anewarray i, 3)) (kk : ∀ (H1 : Heap), RelM Γ (mkN M k0 (ixN n)) H1 → va_S (AF Γ) s.heap H1 locs → W p l e R s m args below meth c H1 locs (cells + 1) (slots + ixN n) Q (F0 m (pc + 3) lk (.ref (adF Γ (pSz M)) :: rest))) : W p l e R s m args below meth c H locs cells slots Q (F0 m pc lk (.int n :: rest)) := by
  have ead : adF Γ (pSz M) = H.size := hM.end_ad
  have hn : ¬ n < 0 := fun q => by have := Int32.lt_iff_toInt_lt.mp q; simp at this; omega
  have hmem : eCl k0 ∈ [2, 4, 6, 7, 13] := by rcases (by omega : k0 = 22 ∨ k0 = 23 ∨ k0 = 24 ∨ k0 = 25 ∨ k0 = 26) with rfl | rfl | rfl | rfl | rfl <;> decide
  have hty : (tysL (cxC Γ))[k0 - 20]? = some (cxC Γ (k0 - 20), .object (cNm (eCl k0))) := by rcases (by omega : k0 = 22 ∨ k0 = 23 ∨ k0 = 24 ∨ k0 = 25 ∨ k0 = 26) with rfl | rfl | rfl | rfl | rfl <;> rfl
  refine W.anew hx hb hown (hE.1 _ (w_nT _ ht) rfl args) (va_AO.use (hE.2.2.2.2.1 _ hmem)) rfl hdg rfl hn (by show ixN n * 4 ≤ _; unfold ixN; omega) hcells hslots fun cA kA comp f1 f2 f3 f4 => ?_
  generalize hH1 : H.push ({ cls := cA, slots := Array.replicate n.toNatClampNeg .null, vm := .none } : Cell) = H1
  have z1 : H1.size = H.size + 1 := by rw [← hH1, Array.size_push]
  have e1 : H1[H.size]? = some (arrV cA n.toNatClampNeg (fun _ => .null)) := by rw [← hH1, Array.getElem?_push_size, ← arrV_new]
  have o1 : ∀ q : Nat, q < H.size → H1[q]? = H[q]? := fun q hq => by rw [← hH1, Array.getElem?_push, if_neg (Nat.ne_of_lt hq)]
  rw [← ead]
  have hcA : cA = cxC Γ (k0 - 20) := by
    obtain ⟨-, kA', comp', g1, g2, g3, g4⟩ := hE.2.1.2 _ _ hty
    rw [f1] at g4
    cases g4
    rfl
  refine kk H1 (hM.mk (fun M' hM' hq => Or.inr (Or.inr (Or.inl ?_))) z1 o1) ⟨Nat.le_trans hS.1 (by omega), fun x h1 h2 => (o1 x (Nat.lt_of_lt_of_le h1 hS.1)).trans (hS.2.1 x h1 h2), hS.2.2⟩
  have r0 : pKd M' (pSz M) = k0 := by rw [hM']; exact if_pos rfl
  rw [r0]
  refine ⟨hk.1, by omega, ?_⟩
  rw [hM', hq, e1, hcA, show pLn (mkN M k0 (ixN n)) (pSz M) = ixN n from if_pos rfl]
  have : (fun j => va_rf ((pR (mkN M k0 (ixN n)) (pSz M) j).map (adF Γ))) = fun _ => Value.null := funext fun j => by rw [show pR (mkN M k0 (ixN n)) (pSz M) j = none from if_pos rfl]; rfl
  rw [this]
  rfl
theorem bytP0 : bytP 0 := show ((0 : Int32).toInt8.toInt32 = 0) from by decide
theorem m_newb (hx : p.tables.exec = Jvm.exec) (hb : c.code = cc) (hE : EO Γ s) (hM : RelM Γ M H) (hS : va_S (AF Γ) s.heap H locs) {n : Int32} (h1 : 0 ≤ n.toInt) (h2 : n.toInt ≤ 100000) (hcells : cells + 1 ≤ R.cells) (hslots : slots + ixN n ≤ R.slots)
    (hdg : decode cc pc = .ok (.newarray .byte, 2)) (kk : ∀ (H1 : Heap), RelM Γ (mkN M kByt (ixN n)) H1 → va_S (AF Γ) s.heap H1 locs → W p l e R s m args below meth c H1 locs (cells + 1) (slots + ixN n) Q (F0 m (pc + 2) lk (.ref (adF Γ (pSz M)) :: rest))) : W p l e R s m args below meth c H locs cells slots Q (F0 m pc lk (.int n :: rest)) := by
  have ead : adF Γ (pSz M) = H.size := hM.end_ad
  have hn : ¬ n < 0 := fun q => by have := Int32.lt_iff_toInt_lt.mp q; simp at this; omega
  refine va_newaK (atype := .byte) (N := ixN n) hx hb (hE.1 _ w_acb rfl args) rfl hdg rfl hn rfl (by show ixN n * 1 ≤ _; unfold ixN; omega) hcells hslots rfl fun H1 cA e1 z1 o1 hAr hfc => ?_
  rw [← ead]
  have hcA : cA = cxC Γ 1 := by
    obtain ⟨c0, g1, g2⟩ := hE.2.2.2.2.2.2.2.1
    have : s.vm.findClass "[B" = some cA := hfc
    rw [g1] at this
    cases this
    exact g2
  have ez : ∀ j, pI (mkN M kByt (ixN n)) (pSz M) j = 0 := fun j => if_pos rfl
  refine kk H1 (hM.mk (fun M' hM' hq => Or.inr (Or.inr (Or.inr ⟨?_, ?_, ?_⟩))) z1 o1) ⟨Nat.le_trans hS.1 (by omega), fun x h1 h2 => (o1 x (Nat.lt_of_lt_of_le h1 hS.1)).trans (hS.2.1 x h1 h2), hS.2.2⟩
  · rw [hM']
    exact if_pos rfl
  · rw [hM', hq, e1, hcA, show pLn (mkN M kByt (ixN n)) (pSz M) = ixN n from if_pos rfl]
    congr 1
    have : (fun j => Value.int (pI (mkN M kByt (ixN n)) (pSz M) j)) = fun _ => Value.int 0 := funext fun j => by rw [ez]
    rw [this]
    rfl
  · rw [hM']
    intro j
    rw [ez]
    exact bytP0
theorem outerV (cA : ClassId) (n h0 : Nat) : ∀ i : Nat, Jvm.Free.Multi.outerC cA n h0 i = arrV cA n (fun j => va_rf (if j < i then some (h0 + 1 + j) else none))
  | 0 => (arrV_new cA n Value.null).trans (by
    refine congrArg (arrV cA n) (funext fun j => ?_)
    rw [if_neg (Nat.not_lt_zero j)]
    rfl)
  | i + 1 => by
    show (Jvm.Free.Multi.outerC cA n h0 i).setSlot i (.ref (h0 + 1 + i)) = _
    rw [outerV cA n h0 i, arrV_store]
    refine congrArg (arrV cA n) (funext fun j => ?_)
    by_cases e : j = i
    · subst e
      simp [updV, va_rf]
    · by_cases h : j < i
      · simp [updV, e, h, Nat.lt_succ_of_lt h]
      · simp [updV, e, h, show ¬ j < i + 1 by omega]
theorem m_mna (hx : p.tables.exec = Jvm.exec) (hb : c.code = cc) (hown : s.vm.findClass (cNm 18) = some m.cls) (hE : EO Γ s) (hM : RelM Γ M H) (hS : va_S (AF Γ) s.heap H locs) {n k : Int32} (h1 : 0 ≤ n.toInt) (h2 : n.toInt ≤ 1000) (h3 : 0 ≤ k.toInt) (h4 : k.toInt ≤ 1000) (hcells : cells + (1 + ixN n) ≤ R.cells) (hslots : slots + (ixN n + ixN n * ixN k) ≤ R.slots)
    (hdg : decode cc pc = .ok (.multianewarray 37 2, 4)) (kk : ∀ (H1 : Heap), RelM Γ (mkG M (ixN n) (ixN k)) H1 → va_S (AF Γ) s.heap H1 locs → W p l e R s m args below meth c H1 locs (cells + 1 + ixN n) (slots + ixN n + ixN n * ixN k) Q (F0 m (pc + 4) lk (.ref (adF Γ (pSz M)) :: rest))) : W p l e R s m args below meth c H locs cells slots Q (F0 m pc lk (.int k :: .int n :: rest)) := by
  have ead : adF Γ (pSz M) = H.size := hM.end_ad
  have ng : ∀ z : Int32, 0 ≤ z.toInt → ¬ z < 0 := fun z hz q => by have := Int32.lt_iff_toInt_lt.mp q; simp at this; omega
  intro T hT X
  obtain ⟨vm₁, cA, comp, -, fA, fC, -, -, X', step⟩ := X.multianewarray2F (own := cNm 18) (index := 37) (ty := .int) hx hown (show (Cond.classLink (cNm 18) 37 ("[" ++ (FieldType.array .int).toString)).before args s = true from hE.1 _ w_mnL rfl args) (va_AOA.use hE.2.2.2.2.2.2.2.2.1) (hE.1 _ w_aci rfl args) (g := F0 m pc lk (.int k :: .int n :: rest)) rfl (by rw [hb]; exact hdg) rfl (ng _ h1) (ng _ h3) (by show ixN n * 4 ≤ _; unfold ixN; omega) (by show ixN k * 4 ≤ _; unfold ixN; omega) (by show ixN k ≤ _; unfold ixN; omega) rfl rfl hcells hslots
  have hA : cA = cxC Γ 7 := by
    obtain ⟨c0, g1, g2⟩ := hE.2.2.2.2.2.2.2.2.2.1
    have : s.vm.findClass "[[I" = some cA := fA
    rw [g1] at this
    cases this
    exact g2
  have hC : comp = cxC Γ 0 := by
    obtain ⟨c0, g1, g2⟩ := hE.2.2.2.2.2.1
    have : s.vm.findClass "[I" = some comp := fC
    rw [g1] at this
    cases this
    exact g2
  subst hA hC
  have eN : n.toNatClampNeg = ixN n := rfl
  have eK : k.toNatClampNeg = ixN k := rfl
  rw [eN, eK] at X' step
  have hTh : (T.setVm vm₁).heap = H := hT
  generalize hF : Jvm.Free.Multi.fill (T.setVm vm₁) (cxC Γ 7) (cxC Γ 0) (ixN n) (ixN k) (defaultValue .int) (ixN n) = F at X' step
  obtain ⟨f1, f2, -, -⟩ := Jvm.Free.Multi.fill_facts (T.setVm vm₁) (cxC Γ 7) (cxC Γ 0) (ixN n) (ixN k) (defaultValue .int) (ixN n)
  rw [hF, hTh] at f1 f2
  have hold : ∀ x : Nat, x < H.size → F.heap[x]? = H[x]? := fun x hx => by
    have := Jvm.Free.Multi.fill_old (T.setVm vm₁) (cxC Γ 7) (cxC Γ 0) (ixN n) (ixN k) (defaultValue .int) (a := x) (by rw [hTh]; exact hx) (ixN n)
    rw [hF, hTh] at this
    exact this
  have hrow : ∀ j : Nat, j < ixN n → F.heap[H.size + 1 + j]? = some (arrV (cxC Γ 0) (ixN k) (fun _ => .int 0)) := fun j hj => by
    have := Jvm.Free.Multi.fill_inner (T.setVm vm₁) (cxC Γ 7) (cxC Γ 0) (ixN n) (ixN k) (defaultValue .int) (ixN n) j hj
    rw [hF, hTh] at this
    rw [this]
    exact congrArg some (arrV_new (cxC Γ 0) (ixN k) (Value.int 0))
  rw [outerV] at f2
  have z0 : pSz (mkG M (ixN n) (ixN k)) = pSz M + (1 + ixN n) := rfl
  have hrel : RelM Γ (mkG M (ixN n) (ixN k)) F.heap := by
    refine hM.mks (n := 1 + ixN n) rfl (fun b hb => ?_) (fun i hi e => ?_) (by rw [f1]; omega) hold
    · have q1 : ¬ b = pSz M := by omega
      have q2 : ¬ (pSz M < b ∧ b < pSz M + (1 + ixN n)) := by omega
      have q3 : ¬ (pSz M ≤ b ∧ b < pSz M + (1 + ixN n)) := by omega
      refine ⟨?_, ?_, ?_, ?_⟩
      · show (if b = pSz M then 27 else if pSz M < b ∧ b < pSz M + (1 + ixN n) then 20 else pKd M b) = _
        rw [if_neg q1, if_neg q2]
      · show (if b = pSz M then ixN n else if pSz M < b ∧ b < pSz M + (1 + ixN n) then ixN k else pLn M b) = _
        rw [if_neg q1, if_neg q2]
      · funext j
        show (if pSz M ≤ b ∧ b < pSz M + (1 + ixN n) then 0 else pI M b j) = _
        rw [if_neg q3]
      · funext j
        show (if b = pSz M then (if j < ixN n then some (pSz M + 1 + j) else none) else if pSz M < b ∧ b < pSz M + (1 + ixN n) then none else pR M b j) = _
        rw [if_neg q1, if_neg q2]
    · rcases Nat.eq_zero_or_pos i with rfl | hp
      · have k1 : pKd (mkG M (ixN n) (ixN k)) (pSz M) = 27 := if_pos rfl
        refine Or.inr (Or.inr (Or.inl ?_))
        rw [Nat.add_zero, k1]
        refine ⟨by decide, by decide, ?_⟩
        rw [Nat.add_zero, Nat.add_zero] at e
        rw [e, f2]
        have e2 : pLn (mkG M (ixN n) (ixN k)) (pSz M) = ixN n := if_pos rfl
        rw [e2]
        refine congrArg some (congrArg (arrV (cxC Γ 7) (ixN n)) (funext fun j => ?_))
        have e3 : pR (mkG M (ixN n) (ixN k)) (pSz M) j = if j < ixN n then some (pSz M + 1 + j) else none := if_pos rfl
        rw [e3]
        by_cases hj : j < ixN n
        · rw [if_pos hj, if_pos hj]
          show Value.ref _ = Value.ref (adF Γ _)
          have h159 := hM.1
          have e4 : H.size = cxB Γ + (cxG Γ - 45) + (pSz M - 159) := hM.2.1
          rw [adF_159 (by omega)]
          exact congrArg Value.ref (show H.size + 1 + j = cxB Γ + (cxG Γ - 45) + (pSz M + 1 + j - 159) by omega)
        · rw [if_neg hj, if_neg hj]
          rfl
      · have q2 : pSz M < pSz M + i ∧ pSz M + i < pSz M + (1 + ixN n) := by omega
        have q1 : ¬ pSz M + i = pSz M := by omega
        refine Or.inr (Or.inl ⟨?_, ?_⟩)
        · show (if pSz M + i = pSz M then 27 else if pSz M < pSz M + i ∧ pSz M + i < pSz M + (1 + ixN n) then 20 else pKd M (pSz M + i)) = _
          rw [if_neg q1, if_pos q2]
        · rw [e, show H.size + i = H.size + 1 + (i - 1) by omega, hrow (i - 1) (by omega)]
          have e2 : pLn (mkG M (ixN n) (ixN k)) (pSz M + i) = ixN k := by
            show (if pSz M + i = pSz M then ixN n else if pSz M < pSz M + i ∧ pSz M + i < pSz M + (1 + ixN n) then ixN k else pLn M (pSz M + i)) = _
            rw [if_neg q1, if_pos q2]
          rw [e2]
          refine congrArg some (congrArg (arrV (cxC Γ 0) (ixN k)) (funext fun j => ?_))
          show _ = Value.int (if pSz M ≤ pSz M + i ∧ pSz M + i < pSz M + (1 + ixN n) then 0 else pI M (pSz M + i) j)
          rw [if_pos (by omega)]
  obtain ⟨t, a1, b1⟩ := kk F.heap hrel ⟨by rw [f1]; have := hS.1; omega, fun x g1 g2 => (hold x (Nat.lt_of_lt_of_le g1 hS.1)).trans (hS.2.1 x g1 g2), hS.2.2⟩ F rfl X'
  refine ⟨t, step t ?_, b1⟩
  rw [hT, ← ead]
  exact a1
end MEMI
