/-! A run up to a place of the code. -/
def execT (G : PG) (stop : Nat) : Nat → Nat → Nat → Nat → List PV → List PV → PM → Option (List PV × List PV × PM)
  | 0, _, _, _, _, _, _ => none
  | n + 1, d, y, pc, ls, st, M => if pc = stop then some (ls, st, M) else match G.1 y pc with
    | none => none
    | some e => match opF G.2.2.2.2 G.2.2.2.1 d (G.2.1 y) e pc ls st M with
      | none => none
      | some (.inl (pc', ls', st', M')) => execT G stop n d y pc' ls' st' M'
      | some (.inr (.inl _)) => none
      | some (.inr (.inr (y', as, M', pc', ls', st'))) => match d with
        | 0 => none
        | d' + 1 => match exec G n d' y' 0 (locE G y' as) [] M' with
          | none => none
          | some (v, M2) => execT G stop n (d' + 1) y pc' ls' (v.toList ++ st') M2
theorem execT_grow {stop : Nat} : ∀ (n d y pc : Nat) (ls st : List PV) (M : PM) (ls2 st2 : List PV) (M2 : PM), execT GG stop n d y pc ls st M = some (ls2, st2, M2) → pSz M ≤ pSz M2 ∧ pSl M ≤ pSl M2 := by
  intro n
  induction n with
  | zero => intro d y pc ls st M ls2 st2 M2 h; cases h
  | succ n ih =>
    intro d y pc ls st M ls2 st2 M2 h
    unfold execT at h
    by_cases hs : pc = stop
    · rw [if_pos hs] at h
      cases h
      exact ⟨Nat.le_refl _, Nat.le_refl _⟩
    rw [if_neg hs] at h
    cases hc : GG.1 y pc with
    | none => rw [hc] at h; cases h
    | some e0 =>
      rw [hc] at h
      dsimp only at h
      cases ho : opF GG.2.2.2.2 GG.2.2.2.1 d (GG.2.1 y) e0 pc ls st M with
      | none => rw [ho] at h; cases h
      | some o =>
        have hg := op_grow ho
        rw [ho] at h
        try dsimp only at h
        obtain ⟨pc', ls', st', M'⟩ | r' | ⟨y', as, M', pc', ls', st'⟩ := o
        · have hg1 : pSz M ≤ pSz M' ∧ pSl M ≤ pSl M' := hg
          have := ih _ _ _ _ _ _ _ _ _ h
          exact ⟨by omega, by omega⟩
        · cases h
        · cases d with
          | zero => cases h
          | succ d' =>
            dsimp only at h
            have hg1 : pSz M ≤ pSz M' ∧ pSl M ≤ pSl M' := hg
            cases hr : exec GG n d' y' 0 (locE GG y' as) [] M' with
            | none => rw [hr] at h; cases h
            | some q =>
              rw [hr] at h
              obtain ⟨w, M1⟩ := q
              dsimp only at h
              have hg2 := exec_grow _ _ _ _ _ _ _ _ _ hr
              have := ih _ _ _ _ _ _ _ _ _ h
              exact ⟨by omega, by omega⟩
def RunT (stop d y pc : Nat) (ls st : List PV) (M : PM) (ls2 st2 : List PV) (M2 : PM) : Prop :=
  ∀ {p : Program} {l : Launch} {e : Env} {R : Room} {s : State} {m : MethodId} {args : Array Value} {below : List Frame} {meth : Method} {c : Code} {H : Heap} {locs : List Loc} {Q : State → Prop} {Γ : CX} {lk : Array Slot} {z0 l0 : Nat},
    p.tables.exec = Jvm.exec → c.code = mCd y → c.maxLocals = mxL.getD y 0 → s.vm.findClass (cNm (mcL.getD y 99)) = some m.cls → EO Γ s → EH Γ s s.heap → (isIni y = true → meth.name = "<init>") → d ≤ R.frames → 60 * d ≤ R.locals →
    z0 ≤ pSz M → l0 ≤ pSl M → pSz M2 - z0 ≤ R.cells → pSl M2 - l0 ≤ R.slots → LR Γ y ls lk → RelM Γ M H → va_S (AF Γ) s.heap H locs →
    (∀ (lk : Array Slot) (H : Heap) (locs : List Loc), LR Γ y ls2 lk → RelM Γ M2 H → va_S (AF Γ) s.heap H locs → W p l e R s m args below meth c H locs (pSz M2 - z0) (pSl M2 - l0) Q (F0 m stop lk (st2.map (tvF Γ)))) →
    W p l e R s m args below meth c H locs (pSz M - z0) (pSl M - l0) Q (F0 m pc lk (st.map (tvF Γ)))
set_option maxHeartbeats 4000000 in
theorem run_to {stop : Nat} : ∀ (n d y pc : Nat) (ls st : List PV) (M : PM) (ls2 st2 : List PV) (M2 : PM), execT GG stop n d y pc ls st M = some (ls2, st2, M2) → RunT stop d y pc ls st M ls2 st2 M2 := by
  intro n
  induction n with
  | zero => intro d y pc ls st M ls2 st2 M2 h; cases h
  | succ n ih =>
    intro d y pc ls st M ls2 st2 M2 h p l e R s m args below meth c H locs Q Γ lk z0 l0 hx hb hml hown hE hH hini hd1 hd2 hz hl0 hc1 hc2 hLR hM hS K
    have hgr := execT_grow _ _ _ _ _ _ _ _ _ _ h
    unfold execT at h
    by_cases hs : pc = stop
    · rw [if_pos hs] at h
      cases h
      subst hs
      exact K lk H locs hLR hM hS
    rw [if_neg hs] at h
    cases hc : GG.1 y pc with
    | none => rw [hc] at h; cases h
    | some e0 =>
      rw [hc] at h
      dsimp only at h
      cases ho : opF GG.2.2.2.2 GG.2.2.2.1 d (GG.2.1 y) e0 pc ls st M with
      | none => rw [ho] at h; cases h
      | some o =>
        have hg := op_grow ho
        rw [ho] at h
        try dsimp only at h
        refine step_ok hc hx hb hml hown hE hH hini hd1 hd2 (z0 := z0) (l0 := l0) ?_ hz hl0 hLR hM hS
        rw [show opF XF (fun y => rcL.getD y 99) d (rkL.getD y 0) e0 pc ls st M = some o from ho]
        obtain ⟨pc', ls', st', M'⟩ | r' | ⟨y', as, M', pc', ls', st'⟩ := o
        · have hg2 := execT_grow _ _ _ _ _ _ _ _ _ _ h
          have hg1 : pSz M ≤ pSz M' ∧ pSl M ≤ pSl M' := hg
          refine And.intro ⟨by omega, by omega⟩ ?_
          intro lk' H' locs' hLR' hM' hS'
          exact ih _ _ _ _ _ _ _ _ _ h hx hb hml hown hE hH hini hd1 hd2 (by omega) (by omega) hc1 hc2 hLR' hM' hS' K
        · cases h
        · cases d with
          | zero => cases h
          | succ d' =>
            dsimp only at h
            have hg1 : pSz M ≤ pSz M' ∧ pSl M ≤ pSl M' := hg
            cases hr : exec GG n d' y' 0 (locE GG y' as) [] M' with
            | none => rw [hr] at h; cases h
            | some q =>
              rw [hr] at h
              obtain ⟨w, M1⟩ := q
              dsimp only at h
              have hg2 := exec_grow _ _ _ _ _ _ _ _ _ hr
              have hg3 := execT_grow _ _ _ _ _ _ _ _ _ _ h
              intro pc2 lk' H' locs' hpc hca hst hLR' hM' hS'
              subst hpc
              refine call_ok hca (run_ok _ _ _ _ _ _ _ _ _ hr) hg2 hx hb hml hown hE hH hd1 hd2 (by omega) (by omega) (by omega) (by omega) hst hLR' hM' hS' ?_
              intro H1 locs1 hM1 hS1
              exact ih _ _ _ _ _ _ _ _ _ h hx hb hml hown hE hH hini hd1 hd2 (by omega) (by omega) hc1 hc2 hLR' hM1 hS1 K
