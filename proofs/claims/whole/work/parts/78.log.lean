/-! A run that makes and writes alone, as a list of what it does (the last first). -/
abbrev UP : Type := (Nat × Nat) ⊕ ((Nat × Nat × Int32) ⊕ (Nat × Nat × Option Nat))
def apU (M : PM) (u : UP) : PM := match u with
  | .inl (c, n) => mkN M c n
  | .inr (.inl (a, j, v)) => setI M a j v
  | .inr (.inr (a, j, v)) => setR M a j v
def apR (M : PM) : List UP → PM
  | [] => M
  | u :: L => apU (apR M L) u
def upE (X : PF) (e : PE) (st : List PV) : Option UP := match e.1 with
  | .putfield _ => (match st with
    | .inr (.inl v) :: .inr (.inl (some a)) :: _ => some (.inr (.inr (a, e.2.2.1, v)))
    | .inl v :: .inr (.inl (some a)) :: _ => some (.inr (.inl (a, e.2.2.1, v)))
    | _ => none)
  | .iastore => (match st with
    | .inl v :: .inl i :: .inr (.inl (some a)) :: _ => some (.inr (.inl (a, ixN i, v)))
    | _ => none)
  | .newarray _ => (match st with
    | .inl n :: _ => some (.inl (kInt, ixN n))
    | _ => none)
  | .anewarray _ => (match st with
    | .inl n :: _ => some (.inl (e.2.1, ixN n))
    | _ => none)
  | .new _ => some (.inl (e.2.1, X.1 e.2.1))
  | _ => none
def cnO (u : Option UP) (L : List UP) : List UP := match u with
  | none => L
  | some u => u :: L
/-- the instructions that such a run has -/
def okI (e : PE) : Bool := match e.1 with
  | .aload_n _ => true
  | .iload_n _ => true
  | .istore_n _ => true
  | .astore_n _ => true
  | .iconst _ => true
  | .bipush _ => true
  | .sipush _ => true
  | .ldc _ => true
  | .dup => true
  | .goto _ => true
  | .ifCond _ _ => true
  | .if_icmp _ _ => true
  | .iinc _ _ => true
  | .ishr => true
  | .getstatic _ => true
  | .getfield _ => true
  | .putfield _ => true
  | .arraylength => true
  | .iastore => true
  | .newarray _ => true
  | .anewarray _ => true
  | .new _ => true
  | .invokespecial _ => true
  | .invokevirtual _ => (match e.2.2.2.2 with
    | [] => true
    | _ => false)
  | .invokestatic _ => !(Nat.beq e.2.2.1 8 || Nat.beq e.2.2.1 9)
  | .ireturn => true
  | .return_ => true
  | _ => false
def nzV (v : PV) : Bool := match v with
  | .inr (.inl (some 0)) => false
  | _ => true
def noZ (st : List PV) : Bool := st.all nzV
/-- the same but for the script -/
def AG (M Mc : PM) : Prop := pSz M = pSz Mc ∧ pSl M = pSl Mc ∧ pKd M = pKd Mc ∧ (∀ a, a ≠ 0 → pLn M a = pLn Mc a) ∧ (∀ a, a ≠ 0 → pI M a = pI Mc a) ∧ pR M = pR Mc
theorem AG.ap {M Mc : PM} (h : AG M Mc) (u : UP) : AG (apU M u) (apU Mc u) := by
  obtain ⟨h1, h2, h3, h4, h5, h6⟩ := h
  obtain ⟨z, s, kd, ln, iM, rM⟩ := M
  obtain ⟨z', s', kd', ln', iM', rM'⟩ := Mc
  dsimp only at h1 h2 h3 h4 h5 h6
  subst h1 h2 h3 h6
  obtain ⟨c, n⟩ | ⟨a, j, v⟩ | ⟨a, j, v⟩ := u
  · refine ⟨rfl, rfl, rfl, fun b hb => ?_, fun b hb => ?_, rfl⟩
    · show up1 ln z n b = up1 ln' z n b
      unfold up1
      rw [h4 b hb]
    · show upr iM z 0 b = upr iM' z 0 b
      funext k
      unfold upr
      rw [h5 b hb]
  · refine ⟨rfl, rfl, rfl, h4, fun b hb => ?_, rfl⟩
    show up2 iM a j v b = up2 iM' a j v b
    funext k
    unfold up2
    rw [h5 b hb]
  · exact ⟨rfl, rfl, rfl, h4, h5, rfl⟩
theorem AG.apR {M Mc : PM} (h : AG M Mc) : ∀ L : List UP, AG (apR M L) (apR Mc L)
  | [] => h
  | u :: L => (AG.apR h L).ap u
def mvO (M' : PM) (o : (Nat × List PV × List PV × PM) ⊕ ((Option PV × PM) ⊕ (Nat × List PV × PM × Nat × List PV × List PV))) : (Nat × List PV × List PV × PM) ⊕ ((Option PV × PM) ⊕ (Nat × List PV × PM × Nat × List PV × List PV)) := match o with
  | .inl q => .inl (q.1, q.2.1, q.2.2.1, M')
  | .inr (.inl q) => .inr (.inl (q.1, M'))
  | .inr (.inr q) => .inr (.inr (q.1, q.2.1, M', q.2.2.2.1, q.2.2.2.2.1, q.2.2.2.2.2))
def apO (M : PM) (u : Option UP) : PM := match u with
  | none => M
  | some u => apU M u
theorem nz_ne {a : Nat} (h : nzV (.inr (.inl (some a))) = true) : a ≠ 0 := by
  rintro rfl
  cases h
theorem ag_ite {c : Prop} {i : Decidable c} {x y : OUT} {o o2} (h : @ite _ c i x none = some o) (hk : c → x = some o → y = some o2) : @ite _ c i y none = some o2 := by
  obtain ⟨hc, h⟩ := gr_ite2 h
  rw [if_pos hc]
  exact hk hc h
set_option maxHeartbeats 8000000 in
theorem op_ag {X : PF} {mc : Nat → Nat} {d rk : Nat} {e : PE} {pc : Nat} {ls st : List PV} {M Mc : PM} {o} (hag : AG M Mc) (hok : okI e = true) (hz : noZ st = true) (h : opF X mc d rk e pc ls st Mc = some o) :
    opF X mc d rk e pc ls st M = some (mvO (apO M (upE X e st)) o) := by
  obtain ⟨h1, h2, h3, h4, h5, h6⟩ := hag
  obtain ⟨z, s, kd, ln, iM, rM⟩ := M
  obtain ⟨z', s', kd', ln', iM', rM'⟩ := Mc
  dsimp only at h1 h2 h3 h4 h5 h6
  subst h1 h2 h3 h6
  obtain ⟨i, a, b, w, l⟩ := e
  unfold opF op at h ⊢
  cases i
  all_goals first
    | (cases hok; done)
    | (cases h; rfl)
    | (dsimp only at h ⊢
       repeat' split at h
       all_goals first
         | (cases h; done)
         | (cases h; rfl)
         | (cases h; simp_all only; rfl)
         | skip)
  all_goals sorry
