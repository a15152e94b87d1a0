/-! The whole walk. -/
theorem ad_0 {Γ : CX} : adF Γ 0 = cxA Γ 0 := by
  unfold adF
  rw [if_neg (by decide), if_neg (fun q => absurd q.1 (by decide))]
theorem lr2 {Γ : CX} {lk : Array Slot} (h : LR Γ 268 (locE GG 268 [vR (some 0)]) lk) : LR (ph2 Γ) 268 (locE GG 268 [vR (some 0)]) lk := by
  obtain ⟨h1, h2, h3, h4, h5⟩ := h
  refine ⟨h1, h2, h3, fun i v hi hv => ?_, h5⟩
  have q := h4 i v hi hv
  have hm : v ∈ [vR (some 0)] ++ List.replicate (mxL.getD 268 0 - 1) vT := List.mem_of_getElem? hi
  rcases List.mem_append.mp hm with hm | hm
  · obtain rfl := List.mem_singleton.mp hm
    rw [q]
    show some (Slot.val (va_rf (some (adF Γ 0)))) = some (Slot.val (va_rf (some (adF (ph2 Γ) 0))))
    rw [ad_0, ad_0]
    rfl
  · exact absurd (List.eq_of_mem_replicate hm) hv
theorem loc_10 : locE GG 268 [vR (some 0)] = [vR (some 0), vT, vT, vT, vT, vT, vT, vT, vT, vT] := by decide +kernel
def lawQ (v : Option PV) (M2 : PM) : Prop := v = some (vI 1) ∧ pSz M2 ≤ 159 + 77010 ∧ pSl M2 ≤ 6048 + 3100100
theorem law_whole {L : Nat} {xs : Nat → Int32} (hL : L ≤ 260) : Wp GG 104 268 7 (locE GG 268 [vR (some 0)]) [vR (some 45)] (mS L xs) lawQ := by
  rw [mS_mm, loc_10]
  refine law_7 (d := 0) RC0 LW0 (OX0 (by omega)) (fun I2 D2 h1 h2 => ⟨rfl, ?_, ?_⟩)
  · exact h1
  · have e : dL (dS L xs) = 6048 := mf2
    rw [e] at h2
    exact h2
/-- YOUR PART: from the entry, for every script of at most 260 ints, the law comes to its end with true ('hflags': the launch's flags, for a law that throws: no stack traces) -/
theorem whole_start {p : Program} {e : Env} {s : State} {m : MethodId} {below : List Frame} {meth : Method} {c : Code} (l : Launch) (hflags : l.flags = flags0) {b L : Nat} {xs : Nat → Int32} (hL : L ≤ 260) (C0 : lw_At p s m meth c b L xs) : W p l e room_1 s m #[Value.ref b] below meth c s.heap [] 0 0 (lw_Z below #[Value.ref b] s) (entryFrame m ([Value.ref b] : List Value).toArray 10) := by
  obtain ⟨Γ, gG, g1, g2, g3, g4, hEO, hEH⟩ := start_all C0
  obtain ⟨hx, hb, hr, hml, hown, hts, hX, hbl, hlocks, hgv⟩ := id C0
  obtain ⟨n, v, M2, hex, hv, hz, hl⟩ := law_whole (xs := xs) hL
  have hrel : RelM Γ (pm0 L xs) s.heap := rel0 g1 gG g2 g3
  have hlr : LR Γ 268 (locE GG 268 [vR (some 0)]) _ := LR.entry (by decide) (by decide +kernel)
  have e4 : tvF Γ (vR (some 0)) = Value.ref b := by
    show Value.ref (adF Γ 0) = _
    rw [ad_0, g4]
  have e5 : mxL.getD 268 0 = 10 := by decide +kernel
  have z1 : pSz (m1 L xs) = 220 := (agS (L := L) (xs := xs)).1.trans mf1
  have z2 : pSl (m1 L xs) = 6048 := (agS (L := L) (xs := xs)).2.1.trans mf2
  have z3 : pSz (mS L xs) = 159 := rfl
  have z4 : pSl (mS L xs) = 6048 := z2
  rw [List.map_cons, List.map_nil, e4, e5] at hlr
  rw [lg_entry_eq]
  generalize (lg_sl ([Value.ref b]) ++ List.replicate (10 - (lg_sl ([Value.ref b])).length) Slot.unset).toArray = lk at hlr ⊢
  have hk := run_to 604 104 268 0 _ [] _ _ [vR (some 159)] _ (ph_1 (L := L) (xs := xs)) (p := p) (l := l) (e := e) (R := room_1) (s := s) (m := m) (args := #[Value.ref b]) (below := below) (meth := meth) (c := c) (H := s.heap) (locs := []) (Q := lw_Z below #[Value.ref b] s) (Γ := Γ) (lk := lk) (z0 := 159) (l0 := 0)
    hx hb (by rw [e5]; exact hml) hown hEO hEH (fun q => by rw [show isIni 268 = false by decide +kernel] at q; cases q) (by decide) (by decide) (Nat.le_refl _) (Nat.zero_le _) (by rw [z1]; decide) (by rw [z2]; decide) hlr hrel va_S.rf ?_
  · have z5 : pSz (pm0 L xs) = 159 := rfl
    have z6 : pSl (pm0 L xs) = 0 := rfl
    rw [z5, z6, List.map_nil] at hk
    exact hk
  · intro lk2 H locs hlr2 hM hS
    have hM2 : RelM (ph2 Γ) (mS L xs) H := ren_ok gG z1 (fun a k q _ _ hq => m1_B a k q hq) hM
    have e6 : [vR (some 159)].map (tvF Γ) = [vR (some 45)].map (tvF (ph2 Γ)) := by
      have q : adF (ph2 Γ) 45 = adF Γ 159 := ren_ad gG (b := 159) (by decide) (by decide)
      show [va_rf (some (adF Γ 159))] = [va_rf (some (adF (ph2 Γ) 45))]
      rw [q]
    rw [e6, z1, z2]
    have hk2 := run_ok n 104 268 7 _ [vR (some 45)] _ v M2 hex (p := p) (l := l) (e := e) (R := room_1) (s := s) (m := m) (args := #[Value.ref b]) (below := below) (meth := meth) (c := c) (H := H) (locs := locs) (Q := lw_Z below #[Value.ref b] s) (Γ := ph2 Γ) (lk := lk2) (z0 := 98) (l0 := 0)
      hx hb (by rw [e5]; exact hml) hown hEO hEH (fun q => by rw [show isIni 268 = false by decide +kernel] at q; cases q) (by decide) (by decide) (by rw [z3]; decide) (Nat.zero_le _) (by show pSz M2 - 98 ≤ 600000; omega) (by show pSl M2 - 0 ≤ 7302249; omega) (lr2 hlr2) hM2 hS ?_
    · rw [z3, z4] at hk2
      exact hk2
    · intro pc lk3 H3 locs3 hret hM3 hS3
      subst hv
      rcases hret with ⟨hd, -⟩ | ⟨-, -, z, q⟩ | ⟨-, -, z, q⟩ | ⟨-, -, q⟩
      · refine va_forget (fun q hq => by have := hS3.2.2 q hq; rw [← g1]; exact this) (W.widen (k := 600000) (n := 7302249) (by omega) (by omega) ?_)
        exact lw_ret hx hb hr hlocks hd
      · cases q
      · cases q
      · cases q
