/-! A run that makes and writes alone, as a list of what it does (the last first). -/
theorem gr_ite2 {c : Prop} {i : Decidable c} {x : OUT} {o} (h : @ite _ c i x none = some o) : c ∧ x = some o := by
  by_cases hc : c
  · exact ⟨hc, by rwa [if_pos hc] at h⟩
  · rw [if_neg hc] at h
    cases h
abbrev UP : Type := (Nat × Nat) ⊕ ((Nat × Nat × Int32) ⊕ (Nat × Nat × Option Nat))
def apU (M : PM) (u : UP) : PM := match u with
  | .inl (c, n) => mkN M c n
  | .inr (.inl (a, j, v)) => setI M a j v
  | .inr (.inr (a, j, v)) => setR M a j v
def apR (M : PM) : List UP → PM
  | [] => M
  | u :: L => apU (apR M L) u
def upE (X : PF) (e : PE) (st : List PV) : Option UP := match e.1 with
  | .putfield _ => (match st with
    | .inr (.inl v) :: .inr (.inl (some a)) :: _ => some (.inr (.inr (a, e.2.2.1, v)))
    | .inl v :: .inr (.inl (some a)) :: _ => some (.inr (.inl (a, e.2.2.1, v)))
    | _ => none)
  | .iastore => (match st with
    | .inl v :: .inl i :: .inr (.inl (some a)) :: _ => some (.inr (.inl (a, ixN i, v)))
    | _ => none)
  | .newarray _ => (match st with
    | .inl n :: _ => some (.inl (kInt, ixN n))
    | _ => none)
  | .anewarray _ => (match st with
    | .inl n :: _ => some (.inl (e.2.1, ixN n))
    | _ => none)
  | .new _ => some (.inl (e.2.1, X.1 e.2.1))
  | _ => none
def cnO (u : Option UP) (L : List UP) : List UP := match u with
  | none => L
  | some u => u :: L
/-- the instructions that such a run has -/
def okI (e : PE) : Bool := match e.1 with
  | .aload_n _ => true
  | .iload_n _ => true
  | .istore_n _ => true
  | .astore_n _ => true
  | .iconst _ => true
  | .bipush _ => true
  | .sipush _ => true
  | .ldc _ => true
  | .dup => true
  | .goto _ => true
  | .ifCond _ _ => true
  | .if_icmp _ _ => true
  | .iinc _ _ => true
  | .ishr => true
  | .getstatic _ => (match e.2.1 with
    | 0 => true
    | _ => false)
  | .getfield _ => true
  | .putfield _ => (match e.2.2.2.2 with
    | [] => true
    | _ => false)
  | .arraylength => true
  | .iastore => true
  | .newarray _ => (match e.2.1 with
    | 0 => true
    | _ => false)
  | .anewarray _ => true
  | .new _ => true
  | .invokespecial _ => true
  | .invokevirtual _ => (match e.2.2.2.2 with
    | [] => true
    | _ => false)
  | .invokestatic _ => !(Nat.beq e.2.2.1 8 || (Nat.beq e.2.2.1 9 || Nat.beq e.2.2.1 10))
  | .ireturn => true
  | .return_ => true
  | _ => false
def nzV (v : PV) : Bool := match v with
  | .inr (.inl (some 0)) => false
  | _ => true
def noZ (st : List PV) : Bool := st.all nzV
/-- the same but for the script -/
def AG (M Mc : PM) : Prop := pSz M = pSz Mc ∧ pSl M = pSl Mc ∧ pKd M = pKd Mc ∧ (∀ a, a ≠ 0 → pLn M a = pLn Mc a) ∧ (∀ a, a ≠ 0 → pI M a = pI Mc a) ∧ pR M = pR Mc
theorem AG.ap {M Mc : PM} (h : AG M Mc) (u : UP) : AG (apU M u) (apU Mc u) := by
  obtain ⟨h1, h2, h3, h4, h5, h6⟩ := h
  obtain ⟨z, s, kd, ln, iM, rM⟩ := M
  obtain ⟨z', s', kd', ln', iM', rM'⟩ := Mc
  have e1 : z = z' := h1
  have e2 : s = s' := h2
  have e3 : kd = kd' := h3
  have e6 : rM = rM' := h6
  have k4 : ∀ a, a ≠ 0 → ln a = ln' a := h4
  have k5 : ∀ a, a ≠ 0 → iM a = iM' a := h5
  clear h1 h2 h3 h4 h5 h6
  subst e1 e2 e3 e6
  obtain ⟨c, n⟩ | ⟨a, j, v⟩ | ⟨a, j, v⟩ := u
  · refine ⟨rfl, rfl, rfl, fun b hb => ?_, fun b hb => ?_, rfl⟩
    · show up1 ln z n b = up1 ln' z n b
      unfold up1
      rw [k4 b hb]
    · show upr iM z 0 b = upr iM' z 0 b
      funext k
      unfold upr
      rw [k5 b hb]
  · refine ⟨rfl, rfl, rfl, k4, fun b hb => ?_, rfl⟩
    show up2 iM a j v b = up2 iM' a j v b
    funext k
    unfold up2
    rw [k5 b hb]
  · exact ⟨rfl, rfl, rfl, k4, k5, rfl⟩
theorem AG.apR {M Mc : PM} (h : AG M Mc) : ∀ L : List UP, AG (apR M L) (apR Mc L)
  | [] => h
  | u :: L => (AG.apR h L).ap u
def mvO (M' : PM) (o : (Nat × List PV × List PV × PM) ⊕ ((Option PV × PM) ⊕ (Nat × List PV × PM × Nat × List PV × List PV))) : (Nat × List PV × List PV × PM) ⊕ ((Option PV × PM) ⊕ (Nat × List PV × PM × Nat × List PV × List PV)) := match o with
  | .inl q => .inl (q.1, q.2.1, q.2.2.1, M')
  | .inr (.inl q) => .inr (.inl (q.1, M'))
  | .inr (.inr q) => .inr (.inr (q.1, q.2.1, M', q.2.2.2.1, q.2.2.2.2.1, q.2.2.2.2.2))
def apO (M : PM) (u : Option UP) : PM := match u with
  | none => M
  | some u => apU M u
theorem nz_ne {a : Nat} (h : nzV (.inr (.inl (some a))) = true) : a ≠ 0 := by
  rintro rfl
  cases h
theorem ag_ite {c : Prop} {i : Decidable c} {x y : OUT} {o o2} (h : @ite _ c i x none = some o) (hk : c → x = some o → y = some o2) : @ite _ c i y none = some o2 := by
  obtain ⟨hc, h⟩ := gr_ite2 h
  rw [if_pos hc]
  exact hk hc h
set_option maxHeartbeats 8000000 in
theorem op_ag {X : PF} {mc : Nat → Nat} {d rk : Nat} {e : PE} {pc : Nat} {ls st : List PV} {M Mc : PM} {o} (hag : AG M Mc) (hok : okI e = true) (hz : noZ st = true) (h : opF X mc d rk e pc ls st Mc = some o) :
    opF X mc d rk e pc ls st M = some (mvO (apO M (upE X e st)) o) := by
  obtain ⟨h1, h2, h3, h4, h5, h6⟩ := hag
  obtain ⟨z, s, kd, ln, iM, rM⟩ := M
  obtain ⟨z', s', kd', ln', iM', rM'⟩ := Mc
  have e1 : z = z' := h1
  have e2 : s = s' := h2
  have e3 : kd = kd' := h3
  have e6 : rM = rM' := h6
  clear h1 h2 h3 h6
  subst e1 e2 e3 e6
  obtain ⟨i, a, b, w, l⟩ := e
  unfold opF op at h ⊢
  cases i
  all_goals first
    | (cases hok; done)
    | (cases h; rfl)
    | (dsimp only at h ⊢
       repeat' split at h
       all_goals first
         | (cases h; done)
         | (cases h; rfl)
         | (cases h; simp_all only; rfl)
         | skip)
  all_goals first
    | (cases hok; done)
    | (obtain ⟨r, hr, h⟩ := gr_onR h
       subst hr
       dsimp only [onR] at h ⊢
       first
         | (cases h; rfl)
         | (refine ag_ite h (fun _ h => ?_)
            cases h
            rfl)
         | (refine ag_ite h (fun _ h => ?_)
            cases h
            done)
         | (refine ag_ite h (fun _ h => ag_ite h (fun _ h => ?_))
            cases h
            rfl)
         | (refine ag_ite h (fun _ h => ?_)
            cases h
            rw [if_pos (by assumption)]
            rfl)
         | (have hne : r ≠ 0 := by
              rintro rfl
              simp [noZ, nzV] at hz
            first
              | (refine ag_ite h (fun _ h => ?_)
                 cases h
                 rw [h5 r hne]
                 rfl)
              | (refine ag_ite h (fun _ h => ?_)
                 cases h
                 rw [h4 r hne]
                 rfl)
              | (rw [← h4 r hne] at h
                 refine ag_ite h (fun _ h => ag_ite h (fun _ h => ?_))
                 cases h
                 rfl)))
/-- the run, its list alone -/
def execL (M0 : PM) : Nat → Nat → Nat → Nat → List PV → List PV → List UP → Option (Option PV × List UP)
  | 0, _, _, _, _, _, _ => none
  | n + 1, d, y, pc, ls, st, acc => match GG.1 y pc with
    | none => none
    | some e => match okI e && noZ st with
      | false => none
      | true => match opF GG.2.2.2.2 GG.2.2.2.1 d (GG.2.1 y) e pc ls st (apR M0 acc) with
        | none => none
        | some (.inl (pc', ls', st', _)) => execL M0 n d y pc' ls' st' (cnO (upE GG.2.2.2.2 e st) acc)
        | some (.inr (.inl (v, _))) => some (v, cnO (upE GG.2.2.2.2 e st) acc)
        | some (.inr (.inr (y', as, _, pc', ls', st'))) => match d with
          | 0 => none
          | d' + 1 => match execL M0 n d' y' 0 (locE GG y' as) [] (cnO (upE GG.2.2.2.2 e st) acc) with
            | none => none
            | some (v, acc2) => execL M0 n (d' + 1) y pc' ls' (v.toList ++ st') acc2
theorem apR_cn (M : PM) (u : Option UP) (acc : List UP) : apR M (cnO u acc) = apO (apR M acc) u := by
  cases u <;> rfl
theorem execL_ok {M Mc : PM} (hag : AG M Mc) : ∀ (n d y pc : Nat) (ls st : List PV) (acc : List UP) (v : Option PV) (acc2 : List UP), execL Mc n d y pc ls st acc = some (v, acc2) → exec GG n d y pc ls st (apR M acc) = some (v, apR M acc2) := by
  intro n
  induction n with
  | zero => intro d y pc ls st acc v acc2 h; cases h
  | succ n ih =>
    intro d y pc ls st acc v acc2 h
    unfold execL at h
    unfold exec
    cases hc : GG.1 y pc with
    | none => rw [hc] at h; cases h
    | some e =>
      rw [hc] at h
      dsimp only at h ⊢
      cases hb : okI e && noZ st with
      | false => rw [hb] at h; cases h
      | true =>
        rw [hb] at h
        dsimp only at h
        rw [Bool.and_eq_true] at hb
        cases ho : opF GG.2.2.2.2 GG.2.2.2.1 d (GG.2.1 y) e pc ls st (apR Mc acc) with
        | none => rw [ho] at h; cases h
        | some o =>
          rw [ho] at h
          have h2 := op_ag (hag.apR acc) hb.1 hb.2 ho
          rw [h2, ← apR_cn]
          obtain ⟨pc', ls', st', M'⟩ | ⟨v', M'⟩ | ⟨y', as, M', pc', ls', st'⟩ := o
          · exact ih _ _ _ _ _ _ _ _ h
          · dsimp only at h
            cases h
            rfl
          · cases d with
            | zero => cases h
            | succ d' =>
              dsimp only at h ⊢
              cases hr : execL Mc n d' y' 0 (locE GG y' as) [] (cnO (upE GG.2.2.2.2 e st) acc) with
              | none => rw [hr] at h; cases h
              | some q =>
                rw [hr] at h
                obtain ⟨w, acc1⟩ := q
                have h3 := ih _ _ _ _ _ _ _ _ hr
                show (match exec GG n d' y' 0 (locE GG y' as) [] _ with
                  | none => none
                  | some (v, M2) => exec GG n (d' + 1) y pc' ls' (v.toList ++ st') M2) = _
                rw [h3]
                exact ih _ _ _ _ _ _ _ _ h
