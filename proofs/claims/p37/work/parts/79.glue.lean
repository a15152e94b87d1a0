/-! From the law's entry to the constructor's end. -/
theorem execT_nx {stop n d y pc pc' : Nat} {ls st ls' st' : List PV} {M M' : PM} {e : PE} (hs : ¬ pc = stop) (hc : GG.1 y pc = some e) (ho : opF GG.2.2.2.2 GG.2.2.2.1 d (GG.2.1 y) e pc ls st M = some (.inl (pc', ls', st', M'))) : execT GG stop (n + 1) d y pc ls st M = execT GG stop n d y pc' ls' st' M' := by
  show (if pc = stop then _ else _) = _
  rw [if_neg hs, hc]
  dsimp only
  rw [ho]
theorem execT_cl {stop n d y pc pc' y' : Nat} {ls st ls' st' as : List PV} {M M' M2 : PM} {v : Option PV} {e : PE} (hs : ¬ pc = stop) (hc : GG.1 y pc = some e) (ho : opF GG.2.2.2.2 GG.2.2.2.1 (d + 1) (GG.2.1 y) e pc ls st M = some (.inr (.inr (y', as, M', pc', ls', st')))) (hr : exec GG n d y' 0 (locE GG y' as) [] M' = some (v, M2)) : execT GG stop (n + 1) (d + 1) y pc ls st M = execT GG stop n (d + 1) y pc' ls' (v.toList ++ st') M2 := by
  show (if pc = stop then _ else _) = _
  rw [if_neg hs, hc]
  dsimp only
  rw [ho]
  dsimp only
  rw [hr]
theorem execT_st {stop n d y : Nat} {ls st : List PV} {M : PM} : execT GG stop (n + 1) d y stop ls st M = some (ls, st, M) := by
  show (if stop = stop then _ else _) = _
  rw [if_pos rfl]
section
variable {L : Nat} {xs : Nat → Int32}
theorem ini_1 : exec GG 600 103 0 0 (locE GG 0 [vR (some 159)]) [] (mkN (pm0 L xs) 11 5) = some (none, m1 L xs) := execL_ok (ag_pm0 L xs) 600 103 0 0 _ _ _ _ _ ev1
theorem kd_m0 : pKd (mkN (pm0 L xs) 11 5) 159 = 11 := by
  have e : pKd (mkN (pm0 L xs) 11 5) = up1 kd0 159 11 := rfl
  rw [e]
  exact if_pos rfl
set_option maxRecDepth 100000 in
theorem ph_1 : execT GG 7 604 104 268 0 (locE GG 268 [vR (some 0)]) [] (pm0 L xs) = some (locE GG 268 [vR (some 0)], [vR (some 159)], m1 L xs) := by
  obtain ⟨e0, h0⟩ : ∃ e, GG.1 268 0 = some e := ⟨_, rfl⟩
  obtain ⟨e3, h3⟩ : ∃ e, GG.1 268 3 = some e := ⟨_, rfl⟩
  obtain ⟨e4, h4⟩ : ∃ e, GG.1 268 4 = some e := ⟨_, rfl⟩
  have o0 : opF GG.2.2.2.2 GG.2.2.2.1 104 (GG.2.1 268) e0 0 (locE GG 268 [vR (some 0)]) [] (pm0 L xs) = some (.inl (3, locE GG 268 [vR (some 0)], [vR (some 159)], mkN (pm0 L xs) 11 5)) := by
    cases h0
    rfl
  have o3 : opF GG.2.2.2.2 GG.2.2.2.1 104 (GG.2.1 268) e3 3 (locE GG 268 [vR (some 0)]) [vR (some 159)] (mkN (pm0 L xs) 11 5) = some (.inl (4, locE GG 268 [vR (some 0)], [vR (some 159), vR (some 159)], mkN (pm0 L xs) 11 5)) := by
    cases h3
    rfl
  have o4 : opF GG.2.2.2.2 GG.2.2.2.1 (103 + 1) (GG.2.1 268) e4 4 (locE GG 268 [vR (some 0)]) [vR (some 159), vR (some 159)] (mkN (pm0 L xs) 11 5) = some (.inr (.inr (0, [vR (some 159)], mkN (pm0 L xs) 11 5, 7, locE GG 268 [vR (some 0)], [vR (some 159)]))) := by
    cases h4
    show (@ite _ (pKd (mkN (pm0 L xs) 11 5) 159 = 11) _ _ none) = _
    rw [if_pos kd_m0]
    rfl
  rw [execT_nx (n := 603) (by decide) h0 o0, execT_nx (n := 602) (by decide) h3 o3, execT_cl (n := 601) (d := 103) (by decide) h4 o4 (exec_mono GG _ _ _ _ _ _ _ _ ini_1)]
  exact execT_st
end
