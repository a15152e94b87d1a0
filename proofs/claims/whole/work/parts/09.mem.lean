/-! Memory instructions over the machine, in the words of the pure memory. -/
section MEMI
variable {p : Program} {l : Launch} {e : Env} {R : Room} {s : State} {m : MethodId} {args : Array Value} {below : List Frame} {meth : Method} {c : Code} {H : Heap} {locs : List Loc} {cells slots : Nat} {Q : State → Prop}
variable {Γ : CX} {pc : Nat} {lk : Array Slot} {rest : List Value} {cc : ByteArray} {M : PM}
theorem RelM.obj (hM : RelM Γ M H) {a k0 : Nat} (ha : pKd M a = k0) (hk0 : k0 < 13) : 45 ≤ a ∧ t_OB (adF Γ a) ((cxD Γ).1 k0) (nfL.getD k0 0) ((cxD Γ).2 k0) H (fun k => teF Γ M a k0 k) := by
  subst ha
  obtain ⟨h45, hlt⟩ := hM.new (a := a) (by omega) (by omega) (by omega) (by omega)
  refine ⟨h45, ?_⟩
  rcases hM.2.2.1 a h45 hlt with ⟨-, q⟩ | ⟨q, -⟩ | ⟨q, -⟩
  · exact q
  · omega
  · omega
theorem RelM.arr (hM : RelM Γ M H) {a : Nat} (ha : pKd M a = 20) : 45 ≤ a ∧ H[adF Γ a]? = some (arrV (cxC Γ 0) (pLn M a) (fun j => .int (pI M a j))) := by
  obtain ⟨h45, hlt⟩ := hM.new (a := a) (by omega) (by omega) (by omega) (by omega)
  refine ⟨h45, ?_⟩
  rcases hM.2.2.1 a h45 hlt with ⟨q, -⟩ | ⟨-, q⟩ | ⟨q, -⟩
  · omega
  · exact q
  · omega
theorem RelM.arq (hM : RelM Γ M H) {a : Nat} (ha : 22 ≤ pKd M a ∧ pKd M a < 26) : 45 ≤ a ∧ H[adF Γ a]? = some (arrV (cxC Γ (pKd M a - 20)) (pLn M a) (fun j => va_rf ((pR M a j).map (adF Γ)))) := by
  obtain ⟨h45, hlt⟩ := hM.new (a := a) (by omega) (by omega) (by omega) (by omega)
  refine ⟨h45, ?_⟩
  rcases hM.2.2.1 a h45 hlt with ⟨q, -⟩ | ⟨q, -⟩ | ⟨-, -, q⟩
  · omega
  · omega
  · exact q
theorem RelM.scr (hM : RelM Γ M H) {a : Nat} (ha : pKd M a = 19) : a = 0 := by
  have h45 : a < 45 := by
    refine Nat.not_le.mp fun q => ?_
    rcases Nat.lt_or_ge a (pSz M) with z | z
    · rcases hM.2.2.1 a q z with ⟨q, -⟩ | ⟨q, -⟩ | ⟨q, q2, -⟩ <;> omega
    · have := hM.2.2.2.2 a z
      omega
  obtain ⟨-, -, -, h1⟩ := hM.2.2.2.1
  rcases Nat.eq_zero_or_pos a with rfl | hp
  · rfl
  · rcases Nat.mod_two_eq_zero_or_one a with q | q
    · have := (h1 (a / 2 - 1) (by omega)).2.2.2.1
      rw [show 2 * (a / 2 - 1) + 2 = a by omega] at this
      omega
    · have := (h1 (a / 2) (by omega)).1
      rw [show 2 * (a / 2) + 1 = a by omega] at this
      omega
theorem RelM.byt (hM : RelM Γ M H) {a : Nat} (ha : pKd M a = 21) : ∃ j, j < 22 ∧ a = 2 * j + 2 := by
  have h45 : a < 45 := by
    refine Nat.not_le.mp fun q => ?_
    rcases Nat.lt_or_ge a (pSz M) with z | z
    · rcases hM.2.2.1 a q z with ⟨q, -⟩ | ⟨q, -⟩ | ⟨q, q2, -⟩ <;> omega
    · have := hM.2.2.2.2 a z
      omega
  obtain ⟨h0, -, -, h1⟩ := hM.2.2.2.1
  rcases Nat.eq_zero_or_pos a with rfl | hp
  · omega
  · rcases Nat.mod_two_eq_zero_or_one a with q | q
    · exact ⟨a / 2 - 1, by omega, by omega⟩
    · have := (h1 (a / 2) (by omega)).1
      rw [show 2 * (a / 2) + 1 = a by omega] at this
      omega
theorem teF_eq {M' : PM} {a c0 k : Nat} (h3 : pI M' a k = pI M a k) (h4 : pR M' a k = pR M a k) : teF Γ M' a c0 k = teF Γ M a c0 k := by
  unfold teF
  rw [h3, h4]
theorem m_get (hx : p.tables.exec = Jvm.exec) (hb : c.code = cc) {o i k0 k a : Nat} (hown : s.vm.findClass (cNm o) = some m.cls) (hE : EO Γ s) (hM : RelM Γ M H) (ha : pKd M a = k0) (hk0 : k0 < 13) (hk : k < nfL.getD k0 0) (ht : (o, i, k0, k) ∈ fTab)
    (hdg : decode cc pc = .ok (.getfield i, 3)) (kk : W p l e R s m args below meth c H locs cells slots Q (F0 m (pc + 3) lk (teF Γ M a k0 k :: rest))) : W p l e R s m args below meth c H locs cells slots Q (F0 m pc lk (.ref (adF Γ a) :: rest)) := by
  obtain ⟨T, N, ty, hc, hN, hws, hty, hnm, -, hnms⟩ := clF_all hE _ hk0
  obtain ⟨h45, cell, q1, q2, q3, q4⟩ := hM.obj ha hk0
  obtain ⟨hS, hfc, kC, hkC, hkind⟩ := hE.2.1.1 _ _ hc
  rw [← hN] at q4 hk
  obtain ⟨cf, kf, fi, f, hi, hsl⟩ := hS k hk
  obtain ⟨n1, n2, n3, -⟩ := hnms k hk
  have hst := (u_facts hfc hkC (u_lays (fun w hw => hws args w hw) (fun w h => h) hk) hi).1
  have hi' : s.fieldFound? (cNm k0) (fNm k0 k) (fDs k0 k) = some (cf, kf, fi, f) := by rw [← n1, ← n2, ← n3]; rw [← n1] at hi; exact hi
  obtain ⟨b, hw⟩ := w_fT _ ht
  cases b with
  | true =>
    refine va_Wgetf hx hb hown (hE.1 _ hw rfl args) hi' hst q1 (by rw [q3]; exact fun h => by cases h) (v := teF Γ M a k0 k) ?_ rfl rfl hdg kk
    rw [hsl]
    exact q4 k hk
  | false =>
    refine W.getf hx hb hown (hE.1 _ hw rfl args) hi' hst q1 (by rw [q3]; exact fun h => by cases h) (v := teF Γ M a k0 k) ?_ rfl rfl hdg kk
    rw [hsl]
    exact q4 k hk
theorem m_getS (hx : p.tables.exec = Jvm.exec) (hb : c.code = cc) {o i k a : Nat} (hown : s.vm.findClass (cNm o) = some m.cls) (hE : EO Γ s) (hH : EH Γ s s.heap) (hM : RelM Γ M H) (hS : va_S (AF Γ) s.heap H locs) (ha : pKd M a = 13) (hk : k < 2) (ht : (o, i, 13, k) ∈ fTab)
    (hdg : decode cc pc = .ok (.getfield i, 3)) (kk : W p l e R s m args below meth c H locs cells slots Q (F0 m (pc + 3) lk (teF Γ M a 13 k :: rest))) : W p l e R s m args below meth c H locs cells slots Q (F0 m pc lk (.ref (adF Γ a) :: rest)) := by
  have h45 : a < 45 := by
    refine Nat.not_le.mp fun q => ?_
    rcases Nat.lt_or_ge a (pSz M) with z | z
    · rcases hM.2.2.1 a q z with ⟨q, -⟩ | ⟨q, -⟩ | ⟨q, q2, -⟩ <;> omega
    · have := hM.2.2.2.2 a z
      omega
  obtain ⟨-, -, -, h1⟩ := hM.2.2.2.1
  obtain ⟨j, hj, rfl⟩ : ∃ j, j < 22 ∧ a = 2 * j + 1 := by
    rcases Nat.eq_zero_or_pos a with rfl | hp
    · have := hM.2.2.2.1.1
      omega
    · rcases Nat.mod_two_eq_zero_or_one a with q | q
      · have := (h1 (a / 2 - 1) (by omega)).2.2.2.1
        rw [show 2 * (a / 2 - 1) + 2 = a by omega] at this
        omega
      · exact ⟨a / 2, by omega, by omega⟩
  obtain ⟨-, z2, z3, -⟩ := h1 j hj
  obtain ⟨g1, g2, g3, g4⟩ := hH.1 j hj
  have e1 : adF Γ (2 * j + 1) = cxA Γ (2 * j + 1) := by unfold adF; rw [if_pos h45]
  have e2 : adF Γ (2 * j + 2) = cxA Γ (2 * j + 2) := by unfold adF; rw [if_pos (by omega)]
  obtain ⟨b, hw, hwp⟩ := w_fT2 _ ht
  rw [e1]
  rcases (by omega : k = 0 ∨ k = 1) with rfl | rfl
  · have et : teF Γ M (2 * j + 1) 13 0 = .ref (cxA Γ (2 * j + 2)) := by
      show va_rf ((pR M (2 * j + 1) 0).map (adF Γ)) = _
      rw [z2]
      show Value.ref (adF Γ _) = _
      rw [e2]
    rw [et] at kk
    cases b with
    | true => exact absurd hwp (by simp)
    | false => exact vk_getf hx hb g3 hS hown (hE.1 _ hw rfl args) (fun _ h => h) hdg kk
  · have et : teF Γ M (2 * j + 1) 13 1 = .int 0 := by
      show Value.int (pI M (2 * j + 1) 1) = _
      rw [z3]
    rw [et] at kk
    cases b with
    | true => exact absurd hwp (by simp)
    | false => exact vk_getf hx hb g2 hS hown (hE.1 _ hw rfl args) (fun _ h => h) hdg kk
theorem m_put (hx : p.tables.exec = Jvm.exec) (hb : c.code = cc) {o i k0 k a : Nat} (hown : s.vm.findClass (cNm o) = some m.cls) (hE : EO Γ s) (hM : RelM Γ M H) (hS : va_S (AF Γ) s.heap H locs) (ha : pKd M a = k0) (hk0 : k0 < 13) (hk : k < nfL.getD k0 0) (ht : (o, i, k0, k) ∈ fTab)
    (hfin : (fnL.getD k0 []).getD k true = false ∨ (meth.name = "<init>" ∧ o = k0)) {v : Value} {M' : PM} (h0 : pSz M' = pSz M) (h1 : pKd M' = pKd M) (h2 : pLn M' = pLn M) (h3 : ∀ b j, b ≠ a ∨ j ≠ k → pI M' b j = pI M b j) (h4 : ∀ b j, b ≠ a ∨ j ≠ k → pR M' b j = pR M b j) (hv : teF Γ M' a k0 k = v)
    (hty : (XF.2 k0 k = 0 ∧ ∃ x, v = .int x) ∨ (XF.2 k0 k = 2 ∧ (v = .int 0 ∨ v = .int 1)) ∨ (XF.2 k0 k = 1 ∧ ∃ r, v = va_rf r))
    (hdg : decode cc pc = .ok (.putfield i, 3)) (kk : ∀ (H1 : Heap) (locs1 : List Loc), RelM Γ M' H1 → va_S (AF Γ) s.heap H1 locs1 → W p l e R s m args below meth c H1 locs1 cells slots Q (F0 m (pc + 3) lk rest)) : W p l e R s m args below meth c H locs cells slots Q (F0 m pc lk (v :: .ref (adF Γ a) :: rest)) := by
  obtain ⟨T, N, ty, hc, hN, hws, hpt, hnm, hxf, hnms⟩ := clF_all hE _ hk0
  obtain ⟨h45, cell, q1, q2, q3, q4⟩ := hM.obj ha hk0
  obtain ⟨hSl, hfc, kC, hkC, hkind⟩ := hE.2.1.1 _ _ hc
  have hap := va_apart (own := cNm o) (fun w hw => hws args w hw) (fun w h => h) ty hpt hnm hE.2.1 hc
  rw [← hN] at q4 hk
  obtain ⟨cf, kf, fi, f, hi, hsl⟩ := hSl k hk
  obtain ⟨n1, n2, n3, n4⟩ := hnms k hk
  have hlay0 := hws args _ (u_in_lay hk)
  have hst := (u_facts hfc hkC (u_lays (fun w hw => hws args w hw) (fun w h => h) hk) hi).1
  have hi' : s.fieldFound? (cNm k0) (fNm k0 k) (fDs k0 k) = some (cf, kf, fi, f) := by rw [← n1, ← n2, ← n3]; rw [← n1] at hi; exact hi
  have hnf : narrow (ty k) v = v ∧ fits (ty k) v = true := by
    have e0 := hxf k hk
    rcases hty with ⟨q, x, rfl⟩ | ⟨q, rfl | rfl⟩ | ⟨q, r, rfl⟩
    · rw [q] at e0
      cases hq : ty k <;> rw [hq] at e0 <;> first | exact ⟨rfl, rfl⟩ | cases e0
    · rw [q] at e0
      cases hq : ty k <;> rw [hq] at e0 <;> first | exact ⟨rfl, rfl⟩ | cases e0
    · rw [q] at e0
      cases hq : ty k <;> rw [hq] at e0 <;> first | exact ⟨rfl, rfl⟩ | cases e0
    · rw [q] at e0
      cases hq : ty k <;> rw [hq] at e0 <;> first | (cases r <;> exact ⟨rfl, rfl⟩) | cases e0
  have hrel : ∀ H' : Heap, H'[adF Γ a]? = some (cell.setSlot ((cxD Γ).2 k0 k) v) → H'.size = H.size → (∀ q, q ≠ adF Γ a → H'[q]? = H[q]?) → RelM Γ M' H' := by
    intro H' e1 e2 e3
    refine hM.upd h45 h0 h1 h2 (fun b hb => funext fun j => h3 b j (Or.inl hb)) (fun b hb => funext fun j => h4 b j (Or.inl hb)) (Or.inl ⟨by rw [h1, ha]; exact hk0, ?_⟩) e2 e3
    rw [h1, ha]
    refine ⟨_, e1, q2, q3, fun j hj => ?_⟩
    rw [← hN] at hj
    rw [t_set q4 hap hk v j hj]
    by_cases hjk : j = k
    · subst hjk
      simp [updV, hv]
    · simp only [updV, if_neg hjk]
      rw [teF_eq (h3 a j (Or.inr hjk)) (h4 a j (Or.inr hjk))]
  obtain ⟨b, hw, hwp⟩ := w_fT2 _ ht
  by_cases hff : (T k).2.2.2 = true
  · have hi2 : meth.name = "<init>" ∧ o = k0 := by
      rcases hfin with q | q
      · rw [n4, q] at hff
        cases hff
      · exact q
    have hlay := hlay0
    unfold u_lay at hlay
    rw [if_pos hff] at hlay
    have hcf : m.cls = cf := by
      obtain ⟨_, _, c', _, _, _, -, -, hf', -, -, -, hown2, -⟩ := Cond.laysFinal_spec hlay
      have e1 : c' = cf := by have := hi.symm.trans hf'; simp at this; exact this.1.symm
      rw [n1, ← hi2.2] at hown2
      rw [← e1]
      exact Option.some.inj (hown.symm.trans hown2)
    have h6 := u_fits hfc hkC hkind (Or.inr hlay) hi (hpt k hk) hnf.1 hnf.2
    cases b with
    | true => exact absurd hwp (by simp [hi2.2])
    | false =>
      refine W.putFinK hx hb hown (hE.1 _ hw rfl args) hi' hst hcf hi2.1 (by rw [q2]; exact h6) q1 q3 (by rw [hsl]; exact k2_hasslot (q4 k hk)) rfl rfl hdg fun H' e1 e2 e3 => ?_
      rw [hsl] at e1 ⊢
      exact kk H' _ (hrel H' e1 e2 e3) (hS.put e2 e3 (adF_A h45))
  · have hlay := hlay0
    unfold u_lay at hlay
    rw [if_neg hff] at hlay
    have h6 := u_store hfc hkC hkind hlay hi (hpt k hk) hnf.1 hnf.2
    cases b with
    | true =>
      refine va_WputK hx hb (f := f) hown (hE.1 _ hw rfl args) hi' hst (by rw [q2]; exact h6) q1 q3 (by rw [hsl]; exact k2_hasslot (q4 k hk)) rfl rfl hdg fun H' e1 e2 e3 => ?_
      rw [hsl] at e1 ⊢
      exact kk H' _ (hrel H' e1 e2 e3) (hS.put e2 e3 (adF_A h45))
    | false =>
      refine W.putK hx hb (f := f) ⟨hown, hE.1 _ hw rfl args, ⟨_, _, _, hi'⟩, hst⟩ (by rw [q2]; exact h6) q1 q3 (by rw [hsl]; exact k2_hasslot (q4 k hk)) rfl rfl hdg fun H' e1 e2 e3 => ?_
      rw [hsl] at e1 ⊢
      exact kk H' _ (hrel H' e1 e2 e3) (hS.put e2 e3 (adF_A h45))
theorem m_new (hx : p.tables.exec = Jvm.exec) (hb : c.code = cc) {o i k0 : Nat} (hown : s.vm.findClass (cNm o) = some m.cls) (hE : EO Γ s) (hM : RelM Γ M H) (hS : va_S (AF Γ) s.heap H locs) (hk0 : k0 < 13) (ht : (o, i, k0) ∈ nTab) (hcells : cells + 1 ≤ R.cells) (hslots : slots + nfL.getD k0 0 ≤ R.slots)
    (hdg : decode cc pc = .ok (.new i, 3)) (kk : ∀ (H1 : Heap), RelM Γ (mkN M k0 (nfL.getD k0 0)) H1 → va_S (AF Γ) s.heap H1 locs → W p l e R s m args below meth c H1 locs (cells + 1) (slots + nfL.getD k0 0) Q (F0 m (pc + 3) lk (.ref (adF Γ (pSz M)) :: rest))) : W p l e R s m args below meth c H locs cells slots Q (F0 m pc lk rest) := by
  obtain ⟨T, N, ty, hc, hN, hws, hpt, hnm, hxf, hnms⟩ := clF_all hE _ hk0
  have hKn := hE.2.1.1 _ _ hc
  have ead : adF Γ (pSz M) = H.size := by rw [adF_new hM.1, hM.2.1]
  refine W.newcK hx hb hown (hE.1 _ (w_nT _ ht) rfl args) (hE.1 _ (w_new hk0) rfl args) (hE.1 _ (w_init (Nat.lt_trans hk0 (by decide))) rfl args) rfl hdg hcells hslots hKn.2.1 rfl fun H1 kC hkC e1 z1 o1 => ?_
  rw [← ead]
  refine kk H1 (hM.mk (fun M' hM' hq => Or.inl ⟨?_, ?_⟩) z1 o1) ⟨Nat.le_trans hS.1 (by omega), fun x h1 h2 => (o1 x (Nat.lt_of_lt_of_le h1 hS.1)).trans (hS.2.1 x h1 h2), hS.2.2⟩
  · rw [hM', show pKd (mkN M k0 (nfL.getD k0 0)) (pSz M) = k0 from if_pos rfl]
    exact hk0
  · rw [hM', show pKd (mkN M k0 (nfL.getD k0 0)) (pSz M) = k0 from if_pos rfl, hq, ← hN]
    refine (u_born ty (fun w hw => hws args w hw) (fun w h => h) hKn hkC e1 hpt).to (fun k hk => ?_)
    have e0 := hxf k hk
    unfold teF
    have r1 : pI (mkN M k0 N) (pSz M) k = 0 := if_pos rfl
    have r2 : pR (mkN M k0 N) (pSz M) k = none := if_pos rfl
    rw [r1, r2, e0]
    have hq2 : tyCd (ty k) ≠ 9 := by
      rw [← e0]
      have : (List.range 13).all (fun c => (List.range (nfL.getD c 0)).all (fun k => !decide (XF.2 c k = 9))) = true := by decide +kernel
      have z1 := List.all_eq_true.mp (List.all_eq_true.mp this k0 (List.mem_range.mpr hk0)) k (List.mem_range.mpr (by rw [← hN]; exact hk))
      simpa using z1
    cases hq : ty k <;> rw [hq] at hq2 <;> first | rfl | exact absurd rfl hq2
theorem m_newi (hx : p.tables.exec = Jvm.exec) (hb : c.code = cc) (hE : EO Γ s) (hM : RelM Γ M H) (hS : va_S (AF Γ) s.heap H locs) {n : Int32} (h1 : 0 ≤ n.toInt) (h2 : n.toInt ≤ 100000) (hcells : cells + 1 ≤ R.cells) (hslots : slots + ixN n ≤ R.slots)
    (hdg : decode cc pc = .ok (.newarray .int, 2)) (kk : ∀ (H1 : Heap), RelM Γ (mkN M kInt (ixN n)) H1 → va_S (AF Γ) s.heap H1 locs → W p l e R s m args below meth c H1 locs (cells + 1) (slots + ixN n) Q (F0 m (pc + 2) lk (.ref (adF Γ (pSz M)) :: rest))) : W p l e R s m args below meth c H locs cells slots Q (F0 m pc lk (.int n :: rest)) := by
  have ead : adF Γ (pSz M) = H.size := by rw [adF_new hM.1, hM.2.1]
  have hn : ¬ n < 0 := fun q => by have := Int32.lt_iff_toInt_lt.mp q; simp at this; omega
  refine va_newaK (atype := .int) (N := ixN n) hx hb (hE.1 _ w_aci rfl args) rfl hdg rfl hn rfl (by show ixN n * 4 ≤ _; unfold ixN; omega) hcells hslots rfl fun H1 cA e1 z1 o1 hAr hfc => ?_
  rw [← ead]
  have hcA : cA = cxC Γ 0 := by
    obtain ⟨c0, g1, g2⟩ := hE.2.2.2.2.2
    have : s.vm.findClass "[I" = some cA := hfc
    rw [g1] at this
    cases this
    exact g2
  refine kk H1 (hM.mk (fun M' hM' hq => Or.inr (Or.inl ⟨?_, ?_⟩)) z1 o1) ⟨Nat.le_trans hS.1 (by omega), fun x h1 h2 => (o1 x (Nat.lt_of_lt_of_le h1 hS.1)).trans (hS.2.1 x h1 h2), hS.2.2⟩
  · rw [hM']
    exact if_pos rfl
  · rw [hM', hq, e1, hcA, show pLn (mkN M kInt (ixN n)) (pSz M) = ixN n from if_pos rfl]
    congr 1
    have : (fun j => Value.int (pI (mkN M kInt (ixN n)) (pSz M) j)) = fun _ => Value.int 0 := funext fun j => by rw [show pI (mkN M kInt (ixN n)) (pSz M) j = 0 from if_pos rfl]
    rw [this]
    rfl
theorem m_newq (hx : p.tables.exec = Jvm.exec) (hb : c.code = cc) {o i k0 : Nat} (hown : s.vm.findClass (cNm o) = some m.cls) (hE : EO Γ s) (hM : RelM Γ M H) (hS : va_S (AF Γ) s.heap H locs) (hk : 22 ≤ k0 ∧ k0 < 26) (ht : (o, i, eCl k0) ∈ nTab) {n : Int32} (h1 : 0 ≤ n.toInt) (h2 : n.toInt ≤ 100000) (hcells : cells + 1 ≤ R.cells) (hslots : slots + ixN n ≤ R.slots)
    (hdg : decode cc pc = .ok (.anewarray i, 3)) (kk : ∀ (H1 : Heap), RelM Γ (mkN M k0 (ixN n)) H1 → va_S (AF Γ) s.heap H1 locs → W p l e R s m args below meth c H1 locs (cells + 1) (slots + ixN n) Q (F0 m (pc + 3) lk (.ref (adF Γ (pSz M)) :: rest))) : W p l e R s m args below meth c H locs cells slots Q (F0 m pc lk (.int n :: rest)) := by
  have ead : adF Γ (pSz M) = H.size := by rw [adF_new hM.1, hM.2.1]
  have hn : ¬ n < 0 := fun q => by have := Int32.lt_iff_toInt_lt.mp q; simp at this; omega
  have hmem : eCl k0 ∈ [2, 4, 6, 7] := by rcases (by omega : k0 = 22 ∨ k0 = 23 ∨ k0 = 24 ∨ k0 = 25) with rfl | rfl | rfl | rfl <;> decide
  have hty : (tysL (cxC Γ))[k0 - 20]? = some (cxC Γ (k0 - 20), .object (cNm (eCl k0))) := by rcases (by omega : k0 = 22 ∨ k0 = 23 ∨ k0 = 24 ∨ k0 = 25) with rfl | rfl | rfl | rfl <;> rfl
  refine W.anew hx hb hown (hE.1 _ (w_nT _ ht) rfl args) (va_AO.use (hE.2.2.2.2.1 _ hmem)) rfl hdg rfl hn (by show ixN n * 4 ≤ _; unfold ixN; omega) hcells hslots fun cA kA comp f1 f2 f3 f4 => ?_
  generalize hH1 : H.push ({ cls := cA, slots := Array.replicate n.toNatClampNeg .null, vm := .none } : Cell) = H1
  have z1 : H1.size = H.size + 1 := by rw [← hH1, Array.size_push]
  have e1 : H1[H.size]? = some (arrV cA n.toNatClampNeg (fun _ => .null)) := by rw [← hH1, Array.getElem?_push_size, ← arrV_new]
  have o1 : ∀ q : Nat, q < H.size → H1[q]? = H[q]? := fun q hq => by rw [← hH1, Array.getElem?_push, if_neg (Nat.ne_of_lt hq)]
  rw [← ead]
  have hcA : cA = cxC Γ (k0 - 20) := by
    obtain ⟨-, kA', comp', g1, g2, g3, g4⟩ := hE.2.1.2 _ _ hty
    rw [f1] at g4
    cases g4
    rfl
  refine kk H1 (hM.mk (fun M' hM' hq => Or.inr (Or.inr ?_)) z1 o1) ⟨Nat.le_trans hS.1 (by omega), fun x h1 h2 => (o1 x (Nat.lt_of_lt_of_le h1 hS.1)).trans (hS.2.1 x h1 h2), hS.2.2⟩
  have r0 : pKd M' (pSz M) = k0 := by rw [hM']; exact if_pos rfl
  rw [r0]
  refine ⟨hk.1, hk.2, ?_⟩
  rw [hM', hq, e1, hcA, show pLn (mkN M k0 (ixN n)) (pSz M) = ixN n from if_pos rfl]
  have : (fun j => va_rf ((pR (mkN M k0 (ixN n)) (pSz M) j).map (adF Γ))) = fun _ => Value.null := funext fun j => by rw [show pR (mkN M k0 (ixN n)) (pSz M) j = none from if_pos rfl]; rfl
  rw [this]
  rfl
end MEMI
