/-! From the law's entry to the constructor's end. -/
theorem execT_nx {stop n d y pc pc' : Nat} {ls st ls' st' : List PV} {M M' : PM} {e : PE} (hs : ¬ pc = stop) (hc : GG.1 y pc = some e) (ho : opF GG.2.2.2.2 GG.2.2.2.1 d (GG.2.1 y) e pc ls st M = some (.inl (pc', ls', st', M'))) : execT GG stop (n + 1) d y pc ls st M = execT GG stop n d y pc' ls' st' M' := by
  show (if pc = stop then _ else _) = _
  rw [if_neg hs, hc]
  dsimp only
  rw [ho]
theorem execT_cl {stop n d y pc pc' y' : Nat} {ls st ls' st' as : List PV} {M M' M2 : PM} {v : Option PV} {e : PE} (hs : ¬ pc = stop) (hc : GG.1 y pc = some e) (ho : opF GG.2.2.2.2 GG.2.2.2.1 (d + 1) (GG.2.1 y) e pc ls st M = some (.inr (.inr (y', as, M', pc', ls', st')))) (hr : exec GG n d y' 0 (locE GG y' as) [] M' = some (v, M2)) : execT GG stop (n + 1) (d + 1) y pc ls st M = execT GG stop n (d + 1) y pc' ls' (v.toList ++ st') M2 := by
  show (if pc = stop then _ else _) = _
  rw [if_neg hs, hc]
  dsimp only
  rw [ho]
  dsimp only
  rw [hr]
theorem execT_st {stop n d y : Nat} {ls st : List PV} {M : PM} : execT GG stop (n + 1) d y stop ls st M = some (ls, st, M) := by
  show (if stop = stop then _ else _) = _
  rw [if_pos rfl]
section
variable {L : Nat} {xs : Nat → Int32}
theorem ini_1 : exec GG 600 103 0 0 (locE GG 0 [vR (some 159)]) [] (mkN (pm0 L xs) 11 5) = some (none, m1 L xs) := execL_ok (ag_pm0 L xs) 600 103 0 0 _ _ _ _ _ ev1
end
