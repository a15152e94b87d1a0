/-! The whole walk. -/
theorem old0 {Γ : CX} {L : Nat} {xs : Nat → Int32} (h1 : cxL Γ = L) (h2 : cxX Γ = xs) : oldR Γ (pm0 L xs) := by
  refine ⟨rfl, h1.symm, fun j _ => by rw [h2]; rfl, fun j hj => ?_⟩
  obtain ⟨q1, q2, q3, q4, q5, q6, q7, q8, q9, q10⟩ := str_p j hj
  obtain ⟨r1, r2⟩ := pm0_s (L := L) (xs := xs) hj
  refine ⟨?_, ?_, r1, ?_, ?_, r2⟩
  · show (bif Nat.beq (2 * j + 1) 0 then 19 else bif Nat.blt (2 * j + 1) 45 then (bif Nat.beq ((2 * j + 1) % 2) 1 then 13 else 21) else 99) = 13
    rw [q1, q9, q7]
    rfl
  · show (bif Nat.blt (2 * j + 1) 45 && (Nat.beq ((2 * j + 1) % 2) 1 && Nat.beq 0 0) then some (2 * j + 1 + 1) else none) = some (2 * j + 2)
    rw [q6]
    rfl
  · show (bif Nat.beq (2 * j + 2) 0 then 19 else bif Nat.blt (2 * j + 2) 45 then (bif Nat.beq ((2 * j + 2) % 2) 1 then 13 else 21) else 99) = 21
    rw [q3, q10, q8]
    rfl
  · show (bif Nat.beq (2 * j + 2) 0 then L else bif Nat.beq ((2 * j + 2) % 2) 1 then 2 else (strL.getD ((2 * j + 2) / 2 - 1) []).length) = (strL.getD j []).length
    rw [q3, q8, q5]
    rfl
theorem rel0 {Γ : CX} {L : Nat} {xs : Nat → Int32} {H : Heap} (h0 : cxB Γ = H.size) (h1 : cxL Γ = L) (h2 : cxX Γ = xs) : RelM Γ (pm0 L xs) H := by
  refine ⟨Nat.le_refl _, h0.symm, fun a g1 g2 => absurd g2 (Nat.not_lt.mpr g1), old0 h1 h2, fun a ha => ?_⟩
  have ha : 45 ≤ a := ha
  show (bif Nat.beq a 0 then 19 else bif Nat.blt a 45 then (bif Nat.beq (a % 2) 1 then 13 else 21) else 99) = 99
  rw [(pm0_hi ha).1, (pm0_hi ha).2]
  rfl
set_option maxRecDepth 100000 in
theorem law_pre {M0 : PM} {Q : Option PV → PM → Prop} (hz : pSz M0 = 45) (h : Mt GG 100 0 [vR (some 45)] (mkN M0 11 5) (fun v M2 => v = none ∧ pSz M2 = 106 ∧ Mt GG 100 167 [vR (some 106)] (mkN M2 12 79) (fun v M4 => v = none ∧ Wp GG 101 268 18 [vR (some 0), vR (some 45), vR (some 106), vI 0] [] M4 Q))) :
    Wp GG 101 268 0 (locE GG 268 [vR (some 0)]) [] M0 Q := by
  refine Wp_run (fun pc => Nat.beq pc 18) 12 ?_
  have e1 : pKd (mkN M0 11 5) 45 = 11 := by
    show up1 _ _ _ 45 = _
    unfold up1
    rw [if_pos hz.symm]
  show pKd (mkN M0 11 5) (pSz M0) = 11 ∧ Mt GG 100 0 [vR (some (pSz M0))] (mkN M0 11 5) _
  rw [hz]
  refine ⟨e1, Mt.mono h (fun v M2 hq => ?_)⟩
  obtain ⟨rfl, hz2, h⟩ := hq
  have e2 : pKd (mkN M2 12 79) 106 = 12 := by
    show up1 _ _ _ 106 = _
    unfold up1
    rw [if_pos hz2.symm]
  show pKd (mkN M2 12 79) (pSz M2) = 12 ∧ Mt GG 100 167 [vR (some (pSz M2))] (mkN M2 12 79) _
  rw [hz2]
  refine ⟨e2, Mt.mono h (fun v M4 hq => ?_)⟩
  obtain ⟨rfl, h⟩ := hq
  exact h
theorem Mt_of {d y : Nat} {as : List PV} {M M2 : PM} {v : Option PV} {Q : Option PV → PM → Prop} (n : Nat) (h : exec GG n d y 0 (locE GG y as) [] M = some (v, M2)) (hq : Q v M2) : Mt GG d y as M Q := ⟨n, v, M2, h, hq⟩
theorem apR_mk {M : PM} {c n : Nat} {L : List UP} : apR M (.inl (c, n) :: L) = mkN (apR M L) c n := rfl
theorem law_whole {L : Nat} {xs : Nat → Int32} (hL : L ≤ 2560) : Wp GG 101 268 0 (locE GG 268 [vR (some 0)]) [] (pm0 L xs) (lawQ 600045 7302250) := by
  have h1 : exec GG 600 100 0 0 (locE GG 0 [vR (some 45)]) [] (mkN (pm0 L xs) 11 5) = some (none, apR (pm0 L xs) cLG1) := execL_ok (ag_pm0 L xs) 600 100 0 0 _ _ _ _ _ ev1
  have h2 : exec GG 1000 100 167 0 (locE GG 167 [vR (some 106)]) [] (mkN (apR (pm0 L xs) cLG1) 12 79) = some (none, mS L xs) := by
    have h := execL_ok (ag_pm0 L xs) 1000 100 167 0 _ _ _ _ _ ev2
    rw [apR_mk] at h
    exact h
  have h3 : pSz (apR (pm0 L xs) cLG1) = 106 := by
    rw [((ag_pm0 L xs).apR cLG1).1]
    decide +kernel
  have h4 : Wp GG 101 268 18 [vR (some 0), vR (some 45), vR (some 106), vI 0] [] (mS L xs) (lawQ 600045 7302250) := by
    rw [mS_mm]
    exact law_loop (d := 0) (L := L) (z0 := 159) (l0 := pSl cMF) hL (by decide) (by rw [mf2]; decide) 512 0 τ0 _ _ (by decide) (Nat.zero_le _) ⟨RC0, RM0, WT0⟩ dS_N (Nat.le_refl _) (Nat.le_refl _)
  refine law_pre rfl ?_
  refine Mt_of 600 h1 ?_
  refine And.intro rfl (And.intro h3 ?_)
  refine Mt_of 1000 h2 ?_
  exact And.intro rfl h4
/-- YOUR PART: from the entry, for every script of at most 2560 ints, the law comes to its end with true ('hflags': the launch's flags, for a law that throws: no stack traces) -/
theorem whole_start {p : Program} {e : Env} {s : State} {m : MethodId} {below : List Frame} {meth : Method} {c : Code} (l : Launch) (hflags : l.flags = flags0) {b L : Nat} {xs : Nat → Int32} (hL : L ≤ 2560) (C0 : lw_At p s m meth c b L xs) : W p l e room_1 s m #[Value.ref b] below meth c s.heap [] 0 0 (lw_Z below #[Value.ref b] s) (entryFrame m ([Value.ref b] : List Value).toArray 4) := by
  obtain ⟨Γ, g1, g2, g3, g4, hEO, hEH⟩ := start_all C0
  obtain ⟨hx, hb, hr, hml, hown, hts, hX, hbl, hlocks, hgv⟩ := id C0
  obtain ⟨n, v, M2, hex, hv, hz, hl⟩ := law_whole (xs := xs) hL
  have hrel : RelM Γ (pm0 L xs) s.heap := rel0 g1 g2 g3
  have hlr : LR Γ 268 (locE GG 268 [vR (some 0)]) _ := LR.entry (by decide) (by decide +kernel)
  have e4 : tvF Γ (vR (some 0)) = Value.ref b := by
    show Value.ref (adF Γ 0) = _
    unfold adF
    rw [if_pos (by decide), g4]
  have e5 : mxL.getD 268 0 = 4 := by decide +kernel
  rw [List.map_cons, List.map_nil, e4, e5] at hlr
  rw [lg_entry_eq]
  generalize (lg_sl ([Value.ref b]) ++ List.replicate (4 - (lg_sl ([Value.ref b])).length) Slot.unset).toArray = lk at hlr ⊢
  have hk := run_ok n 101 268 0 _ [] _ v M2 hex (p := p) (l := l) (e := e) (R := room_1) (s := s) (m := m) (args := #[Value.ref b]) (below := below) (meth := meth) (c := c) (H := s.heap) (locs := []) (Q := lw_Z below #[Value.ref b] s) (Γ := Γ) (lk := lk) (z0 := 45) (l0 := 0)
    hx hb (by rw [e5]; exact hml) hown hEO hEH (fun q => by rw [show isIni 268 = false by decide +kernel] at q; cases q) (by decide) (by decide) (Nat.le_refl _) (Nat.le_refl _) (by show pSz M2 - 45 ≤ 600000; omega) (by show pSl M2 - 0 ≤ 7302250; omega) hlr hrel va_S.rf ?_
  · exact hk
  · intro pc lk2 H locs hret hM hS
    subst hv
    rcases hret with ⟨hd, -⟩ | ⟨-, -, z, q⟩ | ⟨-, -, z, q⟩ | ⟨-, -, q⟩
    · refine va_forget (fun q hq => by have := hS.2.2 q hq; rw [← g1]; exact this) (W.widen (k := 600000) (n := 7302250) (by omega) (by omega) ?_)
      exact lw_ret hx hb hr hlocks hd
    · cases q
    · cases q
    · cases q
