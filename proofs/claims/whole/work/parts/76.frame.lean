/-! The script's row is never written. -/
def FSM (M M' : PM) : Prop := pSz M ≤ pSz M' ∧ ∀ a, a < pSz M → pKd M a = 19 → pKd M' a = 19 ∧ pLn M' a = pLn M a ∧ ∀ k, pI M' a k = pI M a k
theorem FSM.rf {M : PM} : FSM M M := ⟨Nat.le_refl _, fun _ _ h => ⟨h, rfl, fun _ => rfl⟩⟩
theorem FSM.tr {M M2 M3 : PM} (h : FSM M M2) (h2 : FSM M2 M3) : FSM M M3 := ⟨Nat.le_trans h.1 h2.1, fun a ha hk => by
  obtain ⟨q1, q2, q3⟩ := h.2 a ha hk
  obtain ⟨r1, r2, r3⟩ := h2.2 a (Nat.lt_of_lt_of_le ha h.1) q1
  exact ⟨r1, r2.trans q2, fun k => (r3 k).trans (q3 k)⟩⟩
theorem FSM.mk {M : PM} {c n : Nat} : FSM M (mkN M c n) := ⟨Nat.le_succ _, fun a ha hk => by
  have hne : a ≠ pSz M := by omega
  refine ⟨?_, ?_, fun k => ?_⟩
  · show up1 _ _ _ a = _
    unfold up1
    rw [if_neg hne]
    exact hk
  · show up1 _ _ _ a = _
    unfold up1
    rw [if_neg hne]
  · show upr _ _ _ a k = _
    unfold upr
    rw [if_neg hne]⟩
theorem FSM.setR {M : PM} {a j : Nat} {v : Option Nat} : FSM M (setR M a j v) := ⟨Nat.le_refl _, fun _ _ h => ⟨h, rfl, fun _ => rfl⟩⟩
theorem FSM.setI {M : PM} {a j : Nat} {v : Int32} (h : pKd M a ≠ 19) : FSM M (setI M a j v) := ⟨Nat.le_refl _, fun b _ hk => ⟨hk, rfl, fun k => by
  show up2 _ _ _ _ b k = _
  unfold up2
  rw [if_neg (fun q => h (by rw [← q.1]; exact hk))]⟩⟩
theorem FSM.cpy {M : PM} {a b sp dp n : Nat} (h : pKd M b ≠ 19) : FSM M (cpyM M a b sp dp n) := ⟨Nat.le_refl _, fun q _ hk => ⟨hk, rfl, fun k => by
  show cpI _ _ _ _ _ _ q k = _
  unfold cpI
  rw [if_neg (fun z => h (by rw [← z.1]; exact hk))]⟩⟩
theorem FSM.cpyN {M : PM} {a c n sp dp m : Nat} (h : c ≠ 19) : FSM M (cpyM (mkN M c n) a (pSz M) sp dp m) := FSM.mk.tr (FSM.cpy (by
  show up1 _ _ _ _ ≠ _
  unfold up1
  rw [if_pos rfl]
  exact h))
def FSo (M : PM) (o : (Nat × List PV × List PV × PM) ⊕ ((Option PV × PM) ⊕ (Nat × List PV × PM × Nat × List PV × List PV))) : Prop := match o with
  | .inl q => FSM M q.2.2.2
  | .inr (.inl q) => FSM M q.2
  | .inr (.inr q) => FSM M q.2.2.1
theorem gr_ite2 {c : Prop} {i : Decidable c} {x : OUT} {o} (h : @ite _ c i x none = some o) : c ∧ x = some o := by
  by_cases hc : c
  · exact ⟨hc, by rwa [if_pos hc] at h⟩
  · rw [if_neg hc] at h
    cases h
theorem fs_eq {M M' : PM} {a b c} {o} (h : (some (.inl (a, b, c, M')) : OUT) = some o) (h1 : FSM M M') : FSo M o := by
  cases h
  exact h1
theorem fs_rt {M : PM} {v} {o} (h : (some (.inr (.inl (v, M))) : OUT) = some o) : FSo M o := by
  cases h
  exact FSM.rf
theorem fs_cl {M : PM} {y as pc ls st} {o} (h : (some (.inr (.inr (y, as, M, pc, ls, st))) : OUT) = some o) : FSo M o := by
  cases h
  exact FSM.rf
theorem fs_tsw {ls st : List PV} {M : PM} {x : Int32} {dflt : Nat} {o} : ∀ (l : List Nat) (lo : Int32), tsw (ρ := OUT) (fun c i a b => @ite _ c i a b) (fun t => some (.inl (t, ls, st, M))) x dflt lo l = some o → FSo M o
  | [], _, h => by
    cases h
    exact FSM.rf
  | t :: ts, lo, h => by
    rcases gr_br h with h | h
    · cases h
      exact FSM.rf
    · exact fs_tsw ts _ h
set_option maxHeartbeats 8000000 in
theorem op_fs {X : PF} {mc : Nat → Nat} {d rk : Nat} {e : PE} {pc : Nat} {ls st : List PV} {M : PM} {o} (he : ∀ i, e.1 = .putfield i → e.2.1 < 13) (h : opF X mc d rk e pc ls st M = some o) : FSo M o := by
  unfold opF op at h
  obtain ⟨i, a, b, z, l⟩ := e
  cases i
  all_goals first
    | (cases h; done)
    | exact fs_eq h FSM.rf
    | exact fs_eq h FSM.mk
    | (dsimp only at h
       repeat' split at h
       all_goals first
         | (cases h; done)
         | exact fs_eq h FSM.rf
         | exact fs_eq (gr_ite h) FSM.rf
         | exact fs_rt h
         | exact fs_rt (gr_ite h)
         | exact fs_cl h
         | exact fs_tsw _ _ h
         | (rcases gr_br h with h | h <;> exact fs_eq h FSM.rf)
         | exact fs_eq (gr_ite h) FSM.mk
         | exact fs_eq h FSM.mk
         | (obtain ⟨r, hr, h⟩ := gr_onR h
            first
              | exact fs_eq h FSM.rf
              | exact fs_eq (gr_ite h) FSM.rf
              | exact fs_eq (gr_ite (gr_ite h)) FSM.rf
              | exact fs_eq (gr_ite (gr_ite (gr_ite h))) FSM.setR
              | exact fs_eq (gr_ite (gr_ite h)) (FSM.setI (fun q => by rw [(gr_ite2 h).1] at q; cases q))
              | exact fs_eq (gr_ite h) (FSM.cpyN (by decide))
              | exact fs_cl (gr_ite h)
              | (obtain ⟨r2, hr2, h2⟩ := gr_onR h
                 obtain ⟨hc, h3⟩ := gr_ite2 h2
                 exact fs_eq (gr_ite h3) (FSM.cpy (fun q => by rw [hc.2] at q; cases q)))
              | (obtain ⟨hk, h⟩ := gr_ite2 h
                 have h13 : (∀ i' : ClassFile.Instr, True) := fun _ => trivial
                 repeat' split at h
                 all_goals first
                   | (cases h; done)
                   | exact fs_eq h FSM.rf
                   | exact fs_eq h FSM.setR
                   | exact fs_eq h (FSM.setI (fun q => by have q2 : a < 13 := he _ rfl; rw [hk] at q; omega))
                   | exact fs_eq (gr_ite h) (FSM.setI (fun q => by have q2 : a < 13 := he _ rfl; rw [hk] at q; omega)))))
theorem put13 {y pc : Nat} {e : PE} (h : prog y pc = some e) : ∀ i, e.1 = .putfield i → e.2.1 < 13 := by
  intro i hi
  obtain ⟨n, -, -, hr⟩ := ok_dec h
  obtain ⟨i', a, b, z, l⟩ := e
  dsimp only at hi
  subst hi
  unfold resOK at hr
  dsimp only at hr ⊢
  simp only [Bool.and_eq_true] at hr
  simpa using hr.1.2
theorem exec_fs : ∀ (n d y pc : Nat) (ls st : List PV) (M : PM) (v : Option PV) (M2 : PM), exec GG n d y pc ls st M = some (v, M2) → FSM M M2 := by
  intro n
  induction n with
  | zero => intro d y pc ls st M v M2 h; cases h
  | succ n ih =>
    intro d y pc ls st M v M2 h
    unfold exec at h
    cases hc : GG.1 y pc with
    | none => rw [hc] at h; cases h
    | some e =>
      rw [hc] at h
      dsimp only at h
      cases ho : opF GG.2.2.2.2 GG.2.2.2.1 d (GG.2.1 y) e pc ls st M with
      | none => rw [ho] at h; cases h
      | some o =>
        have hg := op_fs (put13 hc) ho
        rw [ho] at h
        try dsimp only at h
        obtain ⟨pc', ls', st', M'⟩ | r' | ⟨y', as, M', pc', ls', st'⟩ := o
        · have := ih _ _ _ _ _ _ _ _ h
          exact FSM.tr hg this
        · cases h
          exact hg
        · cases d with
          | zero => cases h
          | succ d' =>
            dsimp only at h
            cases hr : exec GG n d' y' 0 (locE GG y' as) [] M' with
            | none => rw [hr] at h; cases h
            | some q =>
              rw [hr] at h
              obtain ⟨w, M1⟩ := q
              have h1 := ih _ _ _ _ _ _ _ _ hr
              have h2 := ih _ _ _ _ _ _ _ _ h
              exact FSM.tr hg (FSM.tr h1 h2)
theorem Mt.fs {d y : Nat} {as : List PV} {M : PM} {Q : Option PV → PM → Prop} (h : Mt GG d y as M Q) : Mt GG d y as M (fun v M' => Q v M' ∧ FSM M M') := by
  obtain ⟨n, v, M', h1, h2⟩ := h
  exact ⟨n, v, M', h1, h2, exec_fs _ _ _ _ _ _ _ _ _ h1⟩
/-- the script, seen over rows -/
def SCR (I : IM) (D : DY) (I2 : IM) (D2 : DY) : Prop := dN D2 0 = dN D 0 ∧ ∀ k, I2 0 k = I 0 k
theorem FSM.scr {I I2 : IM} {D D2 : DY} (h : FSM (mm I D) (mm I2 D2)) (hz : 159 ≤ dZ D) : SCR I D I2 D2 := by
  obtain ⟨-, g2, g3⟩ := h.2 0 (show 0 < dZ D by omega) rfl
  exact ⟨g2, g3⟩
theorem CI.fs {d y : Nat} {as : List PV} {I : IM} {D : DY} {K : Int32 → IM → Prop} (hz : 159 ≤ dZ D) (h : CI d y as (mm I D) K) : CI d y as (mm I D) (fun x I2 => K x I2 ∧ SCR I D I2 D) :=
  Mt.mono (Mt.fs h) fun v M' ⟨⟨x, I2, e1, e2, hk⟩, hf⟩ => ⟨x, I2, e1, e2, hk, by subst e2; exact FSM.scr (D2 := D) hf hz⟩
theorem CL.fs {d y : Nat} {as : List PV} {I : IM} {D : DY} {K : Int64 → IM → Prop} (hz : 159 ≤ dZ D) (h : CL d y as (mm I D) K) : CL d y as (mm I D) (fun x I2 => K x I2 ∧ SCR I D I2 D) :=
  Mt.mono (Mt.fs h) fun v M' ⟨⟨x, I2, e1, e2, hk⟩, hf⟩ => ⟨x, I2, e1, e2, hk, by subst e2; exact FSM.scr (D2 := D) hf hz⟩
theorem AI.fs {d y : Nat} {as : List PV} {I : IM} {D : DY} {K : Int32 → IM → DY → Prop} (hz : 159 ≤ dZ D) (h : AI d y as (mm I D) K) : AI d y as (mm I D) (fun x I2 D2 => K x I2 D2 ∧ SCR I D I2 D2) :=
  Mt.mono (Mt.fs h) fun v M' ⟨⟨x, I2, D2, e1, e2, hk⟩, hf⟩ => ⟨x, I2, D2, e1, e2, hk, by subst e2; exact FSM.scr hf hz⟩
theorem AL.fs {d y : Nat} {as : List PV} {I : IM} {D : DY} {K : Int64 → IM → DY → Prop} (hz : 159 ≤ dZ D) (h : AL d y as (mm I D) K) : AL d y as (mm I D) (fun x I2 D2 => K x I2 D2 ∧ SCR I D I2 D2) :=
  Mt.mono (Mt.fs h) fun v M' ⟨⟨x, I2, D2, e1, e2, hk⟩, hf⟩ => ⟨x, I2, D2, e1, e2, hk, by subst e2; exact FSM.scr hf hz⟩
