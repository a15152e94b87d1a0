/-! A run of the pure machine is a run of the machine. -/
set_option maxRecDepth 100000 in
theorem w_mTA : ∀ e ∈ mTab.filter (fun e => Nat.beq (mcL.getD e.2.2 99) 19), Cond.methodLink (cNm e.1) e.2.1 (mNm e.2.2) ∈ lw_tbl := map_p (f := fun (e : Nat × Nat × Nat) => Cond.methodLink (cNm e.1) e.2.1 (mNm e.2.2)) (mem_p [994, 1023, 1030, 1034, 1055, 1067, 1071, 1109, 1143, 1154, 1156] (by decide +kernel))
theorem mT_no171 : mTab.all (fun e => !(Nat.beq e.2.2 m_SB_length)) = true := by decide +kernel
theorem as_19 : asYs.all (fun y => Nat.beq (mcL.getD y 99) 19) = true := by decide +kernel
theorem as_of : (List.range nM).all (fun y => !(Nat.beq (mcL.getD y 99) 19) || (isIni y || asYs.contains y)) = true := by decide +kernel
theorem as_sp : asYs.all (fun y => apYs.contains y || (auYs.contains y || (Nat.beq y m_AB_appS || (Nat.beq y m_AB_appI || Nat.beq y m_AB_length)))) = true := by decide +kernel
theorem mkG_le1 {M : PM} {n k : Nat} : pSz M ≤ pSz (mkG M n k) := show pSz M ≤ pSz M + (1 + n) from Nat.le_add_right _ _
theorem mkG_le2 {M : PM} {n k : Nat} : pSl M ≤ pSl (mkG M n k) := show pSl M ≤ pSl M + (n + n * k) from Nat.le_add_right _ _
theorem as_virt : mTab.all (fun e => !(Nat.beq (mcL.getD e.2.2 99) 19) || (Nat.beq e.1 12 || (isIni e.2.2 || (apYs.contains e.2.2 || auYs.contains e.2.2)))) = true := by decide +kernel
theorem sel_priv {s : State} {args : Array Value} {C o name desc : String} {n : Nat} (hins : (Cond.instantiable C n).before args s = true) (hpriv : (Cond.privateMethod ⟨o, name, desc⟩).before args s = true) (hinst : (Cond.instanceMethod ⟨o, name, desc⟩).before args s = true) (hsame : (Cond.sameMethod o o name desc).before args s = true) :
    (Cond.selects C ⟨o, name, desc⟩ ⟨o, name, desc⟩).before args s = true := by
  obtain ⟨c, k, hc, hk, -, -, -, -⟩ := Cond.instantiable_spec hins
  obtain ⟨co, ck, r, h1, h2, h3, h4, h5⟩ := Cond.sameMethod_found hsame
  obtain ⟨mk, methM, hnamed, hmethM, -, -⟩ := Cond.instanceMethod_spec hinst
  cases h5.symm.trans hnamed
  have hcls : r.cls = co := Option.some.inj ((findClass_of_methodNamed hnamed).symm.trans h1)
  have hsel : selectMethod {} s.vm c r = .method r := selectMethod_private hmethM (Cond.privateMethod_at hpriv r methM hnamed hmethM)
  simp only [Cond.before, Cond.holds, Cond.value, hc, h4, hnamed, hsel, hcls, h2]
  simp
  exact h3
def GRo (M : PM) (o : (Nat × List PV × List PV × PM) ⊕ ((Option PV × PM) ⊕ (Nat × List PV × PM × Nat × List PV × List PV))) : Prop := match o with
  | .inl q => pSz M ≤ pSz q.2.2.2 ∧ pSl M ≤ pSl q.2.2.2
  | .inr (.inl q) => pSz M ≤ pSz q.2 ∧ pSl M ≤ pSl q.2
  | .inr (.inr q) => pSz M ≤ pSz q.2.2.1 ∧ pSl M ≤ pSl q.2.2.1
theorem gr_ite {c : Prop} {i : Decidable c} {x : OUT} {o} (h : @ite _ c i x none = some o) : x = some o := by
  by_cases hc : c
  · rwa [if_pos hc] at h
  · rw [if_neg hc] at h
    cases h
theorem gr_br {c : Prop} {i : Decidable c} {x y : OUT} {o} (h : @ite _ c i x y = some o) : x = some o ∨ y = some o := by
  by_cases hc : c
  · exact Or.inl (by rwa [if_pos hc] at h)
  · exact Or.inr (by rwa [if_neg hc] at h)
theorem gr_onR {r : Option Nat} {k : Nat → OUT} {o} (h : onR none r k = some o) : ∃ a, r = some a ∧ k a = some o := by
  cases r with
  | none => cases h
  | some a => exact ⟨a, rfl, h⟩
theorem gr_tsw {ls st : List PV} {M : PM} {x : Int32} {dflt : Nat} {o} : ∀ (l : List Nat) (lo : Int32), tsw (ρ := OUT) (fun c i a b => @ite _ c i a b) (fun t => some (.inl (t, ls, st, M))) x dflt lo l = some o → GRo M o
  | [], _, h => by
    cases h
    exact And.intro (Nat.le_refl _) (Nat.le_refl _)
  | t :: ts, lo, h => by
    rcases gr_br h with h | h
    · cases h
      exact And.intro (Nat.le_refl _) (Nat.le_refl _)
    · exact gr_tsw ts _ h
theorem gr_eq {M M' : PM} {a b c} {o} (h : (some (.inl (a, b, c, M')) : OUT) = some o) (h1 : pSz M ≤ pSz M') (h2 : pSl M ≤ pSl M') : GRo M o := by
  cases h
  exact And.intro h1 h2
theorem gr_rt {M : PM} {v} {o} (h : (some (.inr (.inl (v, M))) : OUT) = some o) : GRo M o := by
  cases h
  exact And.intro (Nat.le_refl _) (Nat.le_refl _)
theorem gr_cl {M : PM} {y as pc ls st} {o} (h : (some (.inr (.inr (y, as, M, pc, ls, st))) : OUT) = some o) : GRo M o := by
  cases h
  exact And.intro (Nat.le_refl _) (Nat.le_refl _)
set_option maxHeartbeats 8000000 in
theorem op_grow {X : PF} {mc : Nat → Nat} {d rk : Nat} {e : PE} {pc : Nat} {ls st : List PV} {M : PM} {o} (h : opF X mc d rk e pc ls st M = some o) : GRo M o := by
  unfold opF op at h
  obtain ⟨i, a, b, z, l⟩ := e
  cases i
  all_goals first
    | (cases h; done)
    | exact gr_eq h (Nat.le_refl _) (Nat.le_refl _)
    | exact gr_eq h (Nat.le_succ _) (Nat.le_add_right _ _)
    | (dsimp only at h
       repeat' split at h
       all_goals first
         | (cases h; done)
         | exact gr_eq h (Nat.le_refl _) (Nat.le_refl _)
         | exact gr_eq (gr_ite h) (Nat.le_refl _) (Nat.le_refl _)
         | exact gr_rt h
         | exact gr_rt (gr_ite h)
         | exact gr_cl h
         | exact gr_tsw _ _ h
         | (rcases gr_br h with h | h <;> exact gr_eq h (Nat.le_refl _) (Nat.le_refl _))
         | exact gr_eq (gr_ite h) (Nat.le_succ _) (Nat.le_add_right _ _)
         | exact gr_eq (gr_ite h) mkG_le1 mkG_le2
         | exact gr_eq h mkG_le1 mkG_le2
         | exact gr_eq h (Nat.le_succ _) (Nat.le_add_right _ _)
         | (obtain ⟨r, hr, h⟩ := gr_onR h
            first
              | exact gr_eq h (Nat.le_refl _) (Nat.le_refl _)
              | exact gr_eq (gr_ite h) (Nat.le_refl _) (Nat.le_refl _)
              | exact gr_eq (gr_ite (gr_ite h)) (Nat.le_refl _) (Nat.le_refl _)
              | exact gr_eq (gr_ite (gr_ite (gr_ite h))) (Nat.le_refl _) (Nat.le_refl _)
              | exact gr_eq (gr_ite h) (Nat.le_succ _) (Nat.le_add_right _ _)
              | exact gr_cl (gr_ite h)
              | (obtain ⟨r2, hr2, h2⟩ := gr_onR h
                 exact gr_eq (gr_ite (gr_ite h2)) (Nat.le_refl _) (Nat.le_refl _))
              | (have h := gr_ite h
                 repeat' split at h
                 all_goals first
                   | (cases h; done)
                   | exact gr_eq h (Nat.le_refl _) (Nat.le_refl _)
                   | exact gr_eq (gr_ite h) (Nat.le_refl _) (Nat.le_refl _)
                   | (have h := gr_ite h
                      repeat' split at h
                      all_goals first
                        | (cases h; done)
                        | exact gr_eq h (Nat.le_refl _) (Nat.le_refl _)
                        | exact gr_eq (gr_ite h) (Nat.le_refl _) (Nat.le_refl _)))))
theorem exec_grow : ∀ (n d y pc : Nat) (ls st : List PV) (M : PM) (v : Option PV) (M2 : PM), exec GG n d y pc ls st M = some (v, M2) → pSz M ≤ pSz M2 ∧ pSl M ≤ pSl M2 := by
  intro n
  induction n with
  | zero => intro d y pc ls st M v M2 h; cases h
  | succ n ih =>
    intro d y pc ls st M v M2 h
    unfold exec at h
    cases hc : GG.1 y pc with
    | none => rw [hc] at h; cases h
    | some e =>
      rw [hc] at h
      dsimp only at h
      cases ho : opF GG.2.2.2.2 GG.2.2.2.1 d (GG.2.1 y) e pc ls st M with
      | none => rw [ho] at h; cases h
      | some o =>
        have hg := op_grow ho
        rw [ho] at h
        try dsimp only at h
        obtain ⟨pc', ls', st', M'⟩ | r' | ⟨y', as, M', pc', ls', st'⟩ := o
        · have := ih _ _ _ _ _ _ _ _ h
          exact ⟨Nat.le_trans hg.1 this.1, Nat.le_trans hg.2 this.2⟩
        · cases h
          exact hg
        · cases d with
          | zero => cases h
          | succ d' =>
            dsimp only at h
            cases hr : exec GG n d' y' 0 (locE GG y' as) [] M' with
            | none => rw [hr] at h; cases h
            | some q =>
              rw [hr] at h
              obtain ⟨w, M1⟩ := q
              have h1 := ih _ _ _ _ _ _ _ _ hr
              have h2 := ih _ _ _ _ _ _ _ _ h
              exact ⟨Nat.le_trans hg.1 (Nat.le_trans h1.1 h2.1), Nat.le_trans hg.2 (Nat.le_trans h1.2 h2.2)⟩
/-- what a run is worth on the machine -/
def RunS (d y pc : Nat) (ls st : List PV) (M : PM) (v : Option PV) (M2 : PM) : Prop :=
  ∀ {p : Program} {l : Launch} {e : Env} {R : Room} {s : State} {m : MethodId} {args : Array Value} {below : List Frame} {meth : Method} {c : Code} {H : Heap} {locs : List Loc} {Q : State → Prop} {Γ : CX} {lk : Array Slot} {z0 l0 : Nat},
    p.tables.exec = Jvm.exec → c.code = mCd y → c.maxLocals = mxL.getD y 0 → s.vm.findClass (cNm (mcL.getD y 99)) = some m.cls → EO Γ s → EH Γ s s.heap → (isIni y = true → meth.name = "<init>") → d ≤ R.frames → 60 * d ≤ R.locals →
    z0 ≤ pSz M → l0 ≤ pSl M → pSz M2 - z0 ≤ R.cells → pSl M2 - l0 ≤ R.slots → LR Γ y ls lk → RelM Γ M H → va_S (AF Γ) s.heap H locs →
    (∀ (pc : Nat) (lk : Array Slot) (H : Heap) (locs : List Loc), retAt y pc v → RelM Γ M2 H → va_S (AF Γ) s.heap H locs → W p l e R s m args below meth c H locs (pSz M2 - z0) (pSl M2 - l0) Q (F0 m pc lk (v.toList.map (tvF Γ)))) →
    W p l e R s m args below meth c H locs (pSz M - z0) (pSl M - l0) Q (F0 m pc lk (st.map (tvF Γ)))
theorem lg1 {Γ : CX} : ∀ (as : List PV), as.all notL = true → lg_sl (as.map (tvF Γ)) = as.map (fun v => Slot.val (tvF Γ v))
  | [], _ => rfl
  | v :: as, h => by
    rw [List.all_cons, Bool.and_eq_true] at h
    have ih := lg1 (Γ := Γ) as h.2
    unfold lg_sl at ih ⊢
    rw [List.map_cons, List.flatMap_cons, ih, cat1 h.1]
    rfl
theorem LR.entry {Γ : CX} {y : Nat} {as : List PV} (h : as.all notL = true) (hn : as.length ≤ mxL.getD y 0) : LR Γ y (locE GG y as) ((lg_sl (as.map (tvF Γ)) ++ List.replicate (mxL.getD y 0 - (lg_sl (as.map (tvF Γ))).length) Slot.unset).toArray) := by
  have e1 : (lg_sl (as.map (tvF Γ))).length = as.length := by rw [lg1 as h, List.length_map]
  have hl := lv_entry (as.map (tvF Γ)) (n := mxL.getD y 0) (by rw [e1]; exact hn)
  have e2 : locE GG y as = as ++ List.replicate (mxL.getD y 0 - as.length) vT := rfl
  refine ⟨?_, hl.1, hl.2.1, fun i v hi hv => ?_, fun i z hi => ?_⟩
  · rw [e2, List.length_append, List.length_replicate]
    omega
  · rw [e2] at hi
    by_cases hlt : i < as.length
    · rw [List.getElem?_append_left hlt] at hi
      rw [List.getElem?_toArray, List.getElem?_append_left (by rw [e1]; exact hlt), lg1 as h, List.getElem?_map, hi]
      rfl
    · rw [List.getElem?_append_right (Nat.not_lt.mp hlt)] at hi
      exact absurd (List.eq_of_mem_replicate (List.mem_of_getElem? hi)) hv
  · rw [e2] at hi
    by_cases hlt : i < as.length
    · rw [List.getElem?_append_left hlt] at hi
      have := List.all_eq_true.mp h _ (List.mem_of_getElem? hi)
      cases this
    · rw [List.getElem?_append_right (Nat.not_lt.mp hlt)] at hi
      have := List.eq_of_mem_replicate (List.mem_of_getElem? hi)
      cases this
theorem va_S.trans' {A : Nat → Prop} {H0 H H1 : Heap} {locs L : List Loc} (h : va_S A H0 H locs) (h1 : va_S A H H1 []) (hL : ∀ q ∈ L, A q.base) : va_S A H0 H1 (locs ++ L) :=
  ⟨Nat.le_trans h.1 h1.1, fun q hq hA => (h1.2.1 q (Nat.lt_of_lt_of_le hq h.1) hA).trans (h.2.1 q hq hA), fun q hq => by
    rcases List.mem_append.mp hq with z | z
    · exact h.2.2 q z
    · exact hL q z⟩
abbrev c_pre (Γ : CX) (as : List PV) (M : PM) : Array Value → State → Prop := fun a U => a = (as.map (tvF Γ)).toArray ∧ EO Γ U ∧ EH Γ U U.heap ∧ RelM Γ M U.heap
abbrev c_post (Γ : CX) (v : Option PV) (M1 : PM) : Array Value → State → Outcome → State → Prop := fun _ st o t => o = .returned (v.map (tvF Γ)) ∧ RelM Γ M1 t.heap ∧ va_S (AF Γ) st.heap t.heap []
theorem c_pre_blind {Γ : CX} {as : List PV} {M : PM} : FrameBlind (c_pre Γ as M) := fun _ U _ _ q => ⟨q.1, q.2.1.warm (State.WarmedH.refl U), q.2.2.1.kept (Vm.Alike.refl _) (Nat.le_refl _) (fun _ _ _ => rfl), q.2.2.2⟩
theorem mFacts_spec {y : Nat} (h : y < nM) : mMx y = mxL.getD y 0 ∧ rkOf (mRt y) = rkL.getD y 9 ∧ (mNm y).cls = cNm (mcL.getD y 99) ∧ plainFor (mNm y) = true ∧ (mNm y).cls ≠ "java/lang/invoke/MethodHandle" ∧ (mNm y).cls ≠ "java/lang/invoke/VarHandle"
    ∧ (parseMethodDescriptor (mNm y).desc).map (fun d => d.parameters.length) = some (bif stL.getD y true then naL.getD y 0 else naL.getD y 0 - 1) ∧ (stL.getD y true = true → y ∈ stYs) ∧ (stL.getD y true = false → y ∈ inYs ∧ (y ∈ slYs ∨ isIni y = true ∨ y ∈ asYs ∨ y = m_SB_length)) ∧ mcL.getD y 99 < 21 ∧ naL.getD y 0 ≤ mxL.getD y 0 ∧ mxL.getD y 0 ≤ 40 ∧ (isIni y = true → mRt y = none) := by
  have := m_facts h
  unfold mFacts at this
  simp only [Bool.and_eq_true, decide_eq_true_eq] at this
  obtain ⟨⟨⟨⟨⟨⟨⟨⟨⟨⟨⟨h1, h2⟩, h3⟩, h4⟩, h5⟩, h6⟩, h7⟩, h8⟩, h9⟩, h10⟩, h11⟩, h12⟩ := this
  refine ⟨h1, h2, h3, h4, h5, h6, h7, fun q => ?_, fun q => ?_, by simpa using h9, Nat.le_of_ble_eq_true h10, Nat.le_of_ble_eq_true h11, fun q => ?_⟩
  · rw [q] at h8
    exact List.contains_iff_mem.mp h8
  · rw [q] at h8
    simp only [cond_false, Bool.and_eq_true, Bool.or_eq_true] at h8
    exact ⟨List.contains_iff_mem.mp h8.1, h8.2.imp (fun z => List.contains_iff_mem.mp z) (fun z => z.imp id (fun z => z.imp (fun z => List.contains_iff_mem.mp z) Nat.eq_of_beq_eq_true))⟩
  · rw [q] at h12
    simpa using h12
theorem nr_char {x : Int32} (h : (x.toUInt32 % 65536).toInt32 = x) : narrow .char (.int x) = .int x := by
  show Value.int x.toUInt32.toUInt16.toUInt32.toInt32 = _
  have : x.toUInt32.toUInt16.toUInt32 = x.toUInt32 % 65536 := by
    apply UInt32.toNat_inj.mp
    simp
  rw [this, h]
theorem nr_bool {x : Int32} (h : x = 0 ∨ x = 1) : narrow .boolean (.int x) = .int x := by
  rcases h with rfl | rfl <;> rfl
theorem met_of (l : Launch) (Γ : CX) {d y : Nat} {as : List PV} {M M1 : PM} {v : Option PV} (hy : y < nM) (hrun : RunS d y 0 (locE GG y as) [] M v M1) (has : as.all notL = true) (hn : as.length ≤ mxL.getD y 0) (hg : pSz M ≤ pSz M1 ∧ pSl M ≤ pSl M1) :
    Met l (mNm y) [Cond.code (mNm y) (cdM y) (mMx y) (mRt y)] { frames := d, cells := pSz M1 - pSz M, slots := pSl M1 - pSl M, locals := 60 * d } (c_pre Γ as M) (c_post Γ v M1) (pSz M1 - pSz M) (pSl M1 - pSl M) (AF Γ) := by
  obtain ⟨f1, f2, f3, f4, -, -, -, -, -, -, -, -, f13⟩ := mFacts_spec hy
  refine va_MetF (cc := cdM y) (maxL := mMx y) (ret := mRt y) f4 rfl ?_
  intro p e s m args below meth c s₁ B hml hv
  obtain ⟨rfl, hE, hH, hM⟩ := hv
  have hx := B.exec
  have hb := B.bytes
  have hr := B.returns
  have hlocks := B.notSynchronized
  have hown : s.vm.findClass (cNm (mcL.getD y 99)) = some m.cls := by rw [← f3]; exact findClass_of_methodNamed B.named
  have hbe : mCd y = cdM y := by
    unfold mCd
    have : Nat.beq y m_law = false := by
      cases hq : Nat.beq y m_law with
      | false => rfl
      | true =>
        have := Nat.eq_of_beq_eq_true hq
        have h268 : m_law = 268 := rfl
        have h2 : nM = 268 := rfl
        omega
    rw [this]
    rfl
  rw [f1] at hml
  rw [f1, lg_entry_eq]
  have hlr := LR.entry (Γ := Γ) (y := y) has hn
  generalize (lg_sl (as.map (tvF Γ)) ++ List.replicate (mxL.getD y 0 - (lg_sl (as.map (tvF Γ))).length) Slot.unset).toArray = lk at hlr ⊢
  have hk := hrun (p := p) (l := l) (e := e) (R := { frames := d, cells := pSz M1 - pSz M, slots := pSl M1 - pSl M, locals := 60 * d }) (s := s) (m := m) (args := (as.map (tvF Γ)).toArray) (below := below) (meth := meth) (c := c) (H := s.heap) (locs := []) (Q := MQ below (c_post Γ v M1) (as.map (tvF Γ)).toArray s (pSz M1 - pSz M) (pSl M1 - pSl M) (AF Γ)) (Γ := Γ) (lk := lk) (z0 := pSz M) (l0 := pSl M)
    hx (by rw [hb, hbe]) hml hown hE hH (fun q => by rw [(name_of_methodNamed B.named B.method).1]; exact eq_of_beq q) (Nat.le_refl _) (Nat.le_refl _) (Nat.le_refl _) (Nat.le_refl _) (Nat.le_refl _) (Nat.le_refl _) hlr hM va_S.rf ?_
  · rw [Nat.sub_self, Nat.sub_self] at hk
    exact hk
  · intro pc lk H locs hret hM1 hS1
    have hq : ∀ t : State, t.heap = H → RelM Γ M1 t.heap ∧ va_S (AF Γ) s.heap t.heap [] := fun t ht => by rw [ht]; exact ⟨hM1, hS1.1, hS1.2.1, fun q hq => absurd hq List.not_mem_nil⟩
    have hb2 : c.code = mCd y := by rw [hb, hbe]
    rcases hret with ⟨hd, x, rfl, hv⟩ | ⟨hd, hk5, z, rfl⟩ | ⟨hd, hk6, r, rfl⟩ | ⟨hd, hk0, rfl⟩
    · have hrk : ∃ ty, mRt y = some ty ∧ narrow ty (.int x) = .int x := by
        have e9 : rkL.getD y 9 = rkL.getD y 0 := by
          cases hq : rkL[y]? with
          | none =>
            rw [List.getD_eq_getElem?_getD, hq] at hv
            exact hv.elim
          | some w => rw [List.getD_eq_getElem?_getD, List.getD_eq_getElem?_getD, hq]; rfl
        rw [e9] at f2
        rw [← f2] at hv
        cases hq : mRt y with
        | none => rw [hq] at hv; exact hv.elim
        | some ty =>
          rw [hq] at hv
          refine ⟨ty, rfl, ?_⟩
          cases ty with
          | int => rfl
          | boolean => exact nr_bool hv
          | char => exact nr_char hv
          | byte => exact congrArg Value.int hv
          | _ => exact hv.elim
      obtain ⟨ty, e1, e2⟩ := hrk
      exact W.zret (ty := ty) hx hb2 (by rw [hr, e1]) e2 (fun t ht _ => ⟨rfl, hq t ht⟩) hS1.2.2 hd
    · have e1 : mRt y = some .long := by
        rw [hk5] at f2
        cases hq : mRt y with
        | none => rw [hq] at f2; cases f2
        | some ty =>
          rw [hq] at f2
          cases ty <;> first | rfl | cases f2
      exact W.lret hx hb2 (by rw [hr, e1]) (fun t ht _ => ⟨rfl, hq t ht⟩) hS1.2.2 hd
    · have e1 : ∃ rt, mRt y = some rt ∧ ((∃ n, rt = .object n) ∨ ∃ t, rt = .array t) := by
        rw [hk6] at f2
        cases hq : mRt y with
        | none => rw [hq] at f2; cases f2
        | some ty =>
          rw [hq] at f2
          refine ⟨ty, rfl, ?_⟩
          cases ty <;> first | exact Or.inl ⟨_, rfl⟩ | exact Or.inr ⟨_, rfl⟩ | cases f2
      obtain ⟨rt, e1, e2⟩ := e1
      refine W.aret (rt := rt) (v := tvF Γ (vR r)) hx hb2 (by rw [hr, e1]) e2 ?_ (fun t ht _ => ⟨rfl, hq t ht⟩) hS1.2.2 hd
      cases r with
      | none => exact Or.inl rfl
      | some a => exact Or.inr ⟨_, rfl⟩
    · have e1 : mRt y = none := by
        rw [hk0] at f2
        cases hq : mRt y with
        | none => rfl
        | some ty => rw [hq] at f2; cases ty <;> cases f2
      exact W.vret hx hb2 (by rw [hr, e1]) (fun t ht _ => ⟨rfl, hq t ht⟩) hS1.2.2 hd
section CALL
variable {p : Program} {l : Launch} {e : Env} {R : Room} {s : State} {m : MethodId} {args : Array Value} {below : List Frame} {meth : Method} {c : Code} {H : Heap} {locs : List Loc} {Q : State → Prop}
variable {Γ : CX} {lk : Array Slot} {M M1 : PM}
theorem recvK (hE : EO Γ s) (hH : EH Γ s s.heap) (hM : RelM Γ M H) (hS : va_S (AF Γ) s.heap H locs) {a k : Nat} (ha : pKd M a = k) (hk : k < 14) : ∃ cellB : Cell, H[adF Γ a]? = some cellB ∧ cellB.vm.isStatics = false ∧ s.vm.findClass (cNm k) = some cellB.cls := by
  have hob : nwP Γ a → ∃ cellB : Cell, H[adF Γ a]? = some cellB ∧ cellB.vm.isStatics = false ∧ s.vm.findClass (cNm k) = some cellB.cls := fun hn => by
    obtain ⟨T, N, ty, hc, -⟩ := clF_all hE _ hk
    obtain ⟨cell, q1, q2, q3, q4⟩ := hM.obj ha hk hn
    obtain ⟨hSl, hfc, -⟩ := hE.2.1.1 _ _ hc
    exact ⟨cell, q1, by rw [q3]; rfl, by rw [q2]; exact hfc⟩
  rcases Nat.lt_or_ge k 13 with h13 | h13
  · exact hob (hM.nw13 (by omega))
  · obtain rfl : k = 13 := by omega
    rcases hM.str ha with ⟨hn, -⟩ | ⟨j, hj, rfl⟩
    · exact hob hn
    · have hp := plS_lt hj
      obtain ⟨g1, -⟩ := hH.1 j hj
      obtain ⟨cell, c1, c2, c3, -⟩ := g1.kept hS.2.1
      rw [adF_old (by omega) (by omega) hM.2.2.2.2.2.2]
      exact ⟨cell, c1, c2, c3⟩
set_option maxHeartbeats 4000000 in
theorem call_ok {d y y' pc : Nat} {as ls st : List PV} {w : Option PV} (hca : callAt y pc y' as M) (hrun : RunS d y' 0 (locE GG y' as) [] M w M1) (hg : pSz M ≤ pSz M1 ∧ pSl M ≤ pSl M1)
    (hx : p.tables.exec = Jvm.exec) (hb : c.code = mCd y) (hml : c.maxLocals = mxL.getD y 0) (hown : s.vm.findClass (cNm (mcL.getD y 99)) = some m.cls) (hE : EO Γ s) (hH : EH Γ s s.heap) (hd1 : d + 1 ≤ R.frames) (hd2 : 60 * (d + 1) ≤ R.locals) {z0 l0 : Nat}
    (hz : z0 ≤ pSz M) (hl0 : l0 ≤ pSl M) (hc1 : pSz M1 - z0 ≤ R.cells) (hc2 : pSl M1 - l0 ≤ R.slots) (hst : st.length ≤ 4) (hLR : LR Γ y ls lk) (hM : RelM Γ M H) (hS : va_S (AF Γ) s.heap H locs)
    (kk : ∀ (H1 : Heap) (locs1 : List Loc), RelM Γ M1 H1 → va_S (AF Γ) s.heap H1 locs1 → W p l e R s m args below meth c H1 locs1 (pSz M1 - z0) (pSl M1 - l0) Q (F0 m (pc + 3) lk ((w.toList ++ st).map (tvF Γ)))) :
    W p l e R s m args below meth c H locs (pSz M - z0) (pSl M - l0) Q (F0 m pc lk ((as.reverse ++ st).map (tvF Γ))) := by
  obtain ⟨has, hlen, i, hcase⟩ := hca
  have hy : y' < nM := by
    rcases hcase with ⟨hmem, -⟩ | ⟨hmem, -⟩ | ⟨hmem, -⟩ | ⟨hmem, -⟩ | ⟨hmem, -⟩ | ⟨hmem, -⟩
    · exact mT_lt hmem
    · exact mT_lt hmem
    · exact mT_lt hmem
    · exact mT_lt hmem
    · have e : y' = m_SB_length := (Prod.mk.inj (Prod.mk.inj (uT_eq hmem)).2).2
      rw [e]
      decide
    · exact mT_lt hmem
  obtain ⟨f1, f2, f3, f4, f5, f6, f7, f8, f9, f10, f11, f12, f13⟩ := mFacts_spec (y := y') hy
  have met := met_of l Γ hy hrun has (by rw [hlen]; exact f11) hg
  have hcat := catsum (Γ := Γ) st
  have hrm : 2 * (F0 m pc lk ((as.reverse ++ st).map (tvF Γ))).monitorRoom + ((st.map (tvF Γ)).map fun v => v.category).sum ≤ 8 := by
    show 2 * 0 + _ ≤ 8
    omega
  have hcells : pSz M - z0 + (pSz M1 - pSz M) ≤ R.cells ∧ pSl M - l0 + (pSl M1 - pSl M) ≤ R.slots := by omega
  have hlo : 8 + (mMx y' + 11) + 60 * d ≤ R.locals := by rw [f1]; omega
  have hwsw : ∀ w ∈ [Cond.code (mNm y') (cdM y') (mMx y') (mRt y')], ∀ (a' : Array Value) (U : State), s.WarmedH U.vm → w.before a' U = true := fun w hw a' U hW => by
    obtain rfl := List.mem_singleton.mp hw
    exact (hE.warm hW).1 _ (w_code hy) rfl a'
  have hcd : (Cond.code (mNm y') (cdM y') (mMx y') (mRt y')).before args s = true := hE.1 _ (w_code hy) rfl args
  have hini : (Cond.initialized (mNm y').cls).before args s = true := by rw [f3]; exact hE.1 _ (w_init f10) rfl args
  have hstk : (as.reverse ++ st).map (tvF Γ) = (as.map (tvF Γ)).reverse ++ st.map (tvF Γ) := by rw [List.map_append, List.map_reverse]
  have hsz : (F0 m pc lk ((as.reverse ++ st).map (tvF Γ))).locals.size = c.maxLocals := by rw [hml]; exact hLR.2.1
  have hpc : ∀ U : State, U.heap = H → s.WarmedH U.vm → c_pre Γ as M (as.map (tvF Γ)).toArray U := fun U hU hW => ⟨rfl, hE.warm hW, by rw [hU]; exact hH.kept hW.alike hS.1 hS.2.1, by rw [hU]; exact hM⟩
  have hkk : ∀ (v : Option Value) (st₀ t : State) (L : List Loc), st₀.heap = H → (∀ q ∈ L, AF Γ q.base) → c_post Γ w M1 #[] st₀ (.returned v) t → s.vm.Alike t.vm → W p l e R s m args below meth c t.heap (locs ++ L) (pSz M - z0 + (pSz M1 - pSz M)) (pSl M - l0 + (pSl M1 - pSl M)) Q (F0 m (pc + 3) lk (v.toList ++ st.map (tvF Γ))) := fun v st₀ t L h0 hL hq _ => by
    obtain ⟨q1, q2, q3⟩ := hq
    cases q1
    rw [h0] at q3
    have hk := kk t.heap (locs ++ L) q2 (hS.trans' q3 hL)
    rw [show pSz M - z0 + (pSz M1 - pSz M) = pSz M1 - z0 by omega, show pSl M - l0 + (pSl M1 - pSl M) = pSl M1 - l0 by omega]
    have e1 : (w.map (tvF Γ)).toList ++ st.map (tvF Γ) = (w.toList ++ st).map (tvF Γ) := by cases w <;> rfl
    rw [e1]
    exact hk
  rcases hcase with ⟨hmem, hdg, hst2⟩ | ⟨hmem, hdg, hst2, hni, h14, a, as', rfl, hka⟩ | ⟨hmem, hdg, hst2, hii, a, as', rfl⟩ | ⟨hmem, hdg, hst2, hni, h19, hown12, a, as', rfl, hka⟩ | ⟨hmem, hdg, a, as', rfl, hka⟩ | ⟨hmem, ho12, hdg, hst2, hni, h19, a, as', rfl, hka⟩
  · obtain ⟨b, hw⟩ := w_mT _ hmem
    have har : ∀ sig, parseMethodDescriptor (mNm y').desc = some sig → naL.getD y' 0 = sig.parameters.length := fun sig h => by
      rw [h] at f7
      have hT : stL.getD y' true = true := by
        rw [List.getD_eq_getElem?_getD] at hst2 ⊢
        cases hq : stL[y']? with
        | none => rfl
        | some z => rw [hq] at hst2; exact hst2
      rw [hT] at f7
      exact (Option.some.inj f7).symm
    have hT : stL.getD y' true = true := by
      rw [List.getD_eq_getElem?_getD] at hst2 ⊢
      cases hq : stL[y']? with
      | none => rfl
      | some z => rw [hq] at hst2; exact hst2
    have hsm := hE.1 _ (w_stat _ (f8 hT)) rfl args
    cases b with
    | false =>
      exact callW (va_runS (Ts := []) (nL := c.maxLocals) (own := cNm (mcL.getD y 99)) (n := naL.getD y' 0) (As := as.map (tvF Γ)) (rest := st.map (tvF Γ)) ⟨hx, hb, rfl, hown, fun _ h => absurd h List.not_mem_nil⟩ met
        ⟨⟨rfl, rfl, hd1, hlo, hwsw, List.mem_singleton.mpr rfl, hcd, hini, ⟨f5, f6⟩, har, hE.1 _ hw rfl args⟩, hsm⟩ ⟨c_pre_blind, hpc⟩ rfl (by rw [List.length_map]; exact hlen) hsz hstk hrm hdg hcells) hkk
    | true =>
      exact callW (va_runSN (Ts := []) (nL := c.maxLocals) (own := cNm (mcL.getD y 99)) (host := "StockEvents") (n := naL.getD y' 0) (As := as.map (tvF Γ)) (rest := st.map (tvF Γ)) ⟨hx, hb, rfl, hown, fun _ h => absurd h List.not_mem_nil⟩ met
        ⟨⟨⟨rfl, rfl, hd1, hlo, hwsw, List.mem_singleton.mpr rfl⟩, hcd, hini, ⟨f5, f6⟩, har, hE.1 _ hw rfl args⟩, hsm, trivial⟩ ⟨c_pre_blind, hpc⟩ rfl (by rw [List.length_map]; exact hlen) hsz hstk hrm hdg hcells) hkk
  · obtain ⟨b, hw⟩ := w_mT _ hmem
    have har : ∀ sig, parseMethodDescriptor (mNm y').desc = some sig → as'.length = sig.parameters.length := fun sig h => by
      rw [h, hst2] at f7
      have := Option.some.inj f7
      simp only [cond_false] at this
      rw [List.length_cons] at hlen
      omega
    have hiy := f9 hst2
    have hsl : y' ∈ slYs := by
      rcases hiy.2 with q | q | q | q
      · exact q
      · rw [hni] at q
        cases q
      · have := Nat.eq_of_beq_eq_true (List.all_eq_true.mp as_19 _ q)
        omega
      · have := List.all_eq_true.mp mT_no171 _ hmem
        simp only [q] at this
        exact absurd this (by simp)
    have hsm := hE.1 _ (w_inst _ hiy.1) rfl args
    have hse := hE.1 _ (w_sel _ hsl) rfl args
    have hrv := recvK hE hH hM hS hka h14
    have hstk2 : (((vR (some a)) :: as').reverse ++ st).map (tvF Γ) = (as'.map (tvF Γ)).reverse ++ Value.ref (adF Γ a) :: st.map (tvF Γ) := by
      rw [hstk, List.map_cons, List.reverse_cons, List.append_assoc]
      rfl
    cases b with
    | false =>
      exact callW (va_runV (Ts := []) (nL := c.maxLocals) (own := cNm (mcL.getD y 99)) (C := cNm (mcL.getD y' 99)) (b := adF Γ a) (n := as'.length) (As := as'.map (tvF Γ)) (rest := st.map (tvF Γ)) ⟨hx, hb, rfl, hown, fun _ h => absurd h List.not_mem_nil⟩ met
        ⟨⟨rfl, rfl, hd1, hlo, hwsw, List.mem_singleton.mpr rfl, hcd, hini, ⟨f5, f6⟩, har, hE.1 _ hw rfl args⟩, hsm, hse⟩ ⟨c_pre_blind, hrv, hpc⟩ rfl (List.length_map ..) hsz hstk2 hrm hdg hcells) hkk
    | true =>
      exact callW (va_runVN (Ts := []) (nL := c.maxLocals) (own := cNm (mcL.getD y 99)) (host := "StockEvents") (C := cNm (mcL.getD y' 99)) (b := adF Γ a) (n := as'.length) (As := as'.map (tvF Γ)) (rest := st.map (tvF Γ)) ⟨hx, hb, rfl, hown, fun _ h => absurd h List.not_mem_nil⟩ met
        ⟨⟨⟨rfl, rfl, hd1, hlo, hwsw, List.mem_singleton.mpr rfl⟩, hcd, hini, ⟨f5, f6⟩, har, hE.1 _ hw rfl args⟩, hsm, hse⟩ ⟨c_pre_blind, hrv, hpc⟩ rfl (List.length_map ..) hsz hstk2 hrm hdg hcells) hkk
  · obtain ⟨b, hw⟩ := w_mT _ hmem
    have har : ∀ sig, parseMethodDescriptor (mNm y').desc = some sig → as'.length = sig.parameters.length := fun sig h => by
      rw [h, hst2] at f7
      have := Option.some.inj f7
      simp only [cond_false] at this
      rw [List.length_cons] at hlen
      omega
    have hiy := f9 hst2
    have hsm := hE.1 _ (w_inst _ hiy.1) rfl args
    have hnm : (mNm y').name = "<init>" := eq_of_beq hii
    have hnone := f13 hii
    rw [hnone] at met hwsw hcd
    have hstk2 : (((vR (some a)) :: as').reverse ++ st).map (tvF Γ) = (as'.map (tvF Γ)).reverse ++ Value.ref (adF Γ a) :: st.map (tvF Γ) := by
      rw [hstk, List.map_cons, List.reverse_cons, List.append_assoc]
      rfl
    cases b with
    | false =>
      exact callW (va_runI (Ts := []) (nL := c.maxLocals) (own := cNm (mcL.getD y 99)) (b := adF Γ a) (n := as'.length) (As := as'.map (tvF Γ)) (rest := st.map (tvF Γ)) ⟨hx, hb, rfl, hown, fun _ h => absurd h List.not_mem_nil⟩ met
        ⟨⟨rfl, rfl, hd1, hlo, hwsw, List.mem_singleton.mpr rfl, hcd, hini, ⟨f5, f6⟩, har, hE.1 _ hw rfl args⟩, hnm, hsm⟩ ⟨c_pre_blind, hpc⟩ rfl (List.length_map ..) hsz hstk2 hrm hdg hcells) hkk
    | true =>
      exact callW (va_runIN (Ts := []) (nL := c.maxLocals) (own := cNm (mcL.getD y 99)) (host := "StockEvents") (b := adF Γ a) (n := as'.length) (As := as'.map (tvF Γ)) (rest := st.map (tvF Γ)) ⟨hx, hb, rfl, hown, fun _ h => absurd h List.not_mem_nil⟩ met
        ⟨⟨⟨rfl, rfl, hd1, hlo, hwsw, List.mem_singleton.mpr rfl⟩, hcd, hini, ⟨f5, f6⟩, har, hE.1 _ hw rfl args⟩, hnm, hsm⟩ ⟨c_pre_blind, hpc⟩ rfl (List.length_map ..) hsz hstk2 hrm hdg hcells) hkk
  · -- inherited
    have har : ∀ sig, parseMethodDescriptor (mNm y').desc = some sig → as'.length = sig.parameters.length := fun sig h => by
      rw [h, hst2] at f7
      have := Option.some.inj f7
      simp only [cond_false] at this
      rw [List.length_cons] at hlen
      omega
    have hiy := f9 hst2
    have hasY : y' ∈ asYs := by
      have := List.all_eq_true.mp as_of y' (List.mem_range.mpr hy)
      rw [h19, hni] at this
      simpa using this
    have hcls : (mNm y').cls = "java/lang/AbstractStringBuilder" := by rw [f3, h19]; rfl
    have hsame := hE.1 _ (w_aSame _ hasY) rfl args
    have hsm := hE.1 _ (w_inst _ hiy.1) rfl args
    have hlink : (Cond.methodLink (cNm (mcL.getD y 99)) i (mNm y')).before args s = true := hE.1 _ (w_mTA _ (List.mem_filter.mpr ⟨hmem, by rw [h19]; rfl⟩)) rfl args
    have hself : (⟨"java/lang/AbstractStringBuilder", (mNm y').name, (mNm y').desc⟩ : MethodName) = mNm y' := by rw [← hcls]
    have hsel : (Cond.selects "java/lang/StringBuilder" (mNm y') (mNm y')).before args s = true := by
      have := List.all_eq_true.mp as_virt _ hmem
      rw [h19] at this
      simp only [hni] at this
      have h12 : Nat.beq (mcL.getD y 99) 12 = false := by
        cases hq : Nat.beq (mcL.getD y 99) 12 with
        | false => rfl
        | true => exact absurd (Nat.eq_of_beq_eq_true hq) hown12
      rw [h12] at this
      have this : apYs.contains y' = true ∨ auYs.contains y' = true := by simpa using this
      rcases this with q | q
      · exact hE.2.2.2.2.2.2.2.2.2.2 _ (List.contains_iff_mem.mp q) args
      · exact hE.1 _ (w_aSel _ (List.contains_iff_mem.mp q)) rfl args
    have hrv := recvK hE hH hM hS hka (by decide)
    have hstk2 : (((vR (some a)) :: as').reverse ++ st).map (tvF Γ) = (as'.map (tvF Γ)).reverse ++ Value.ref (adF Γ a) :: st.map (tvF Γ) := by
      rw [hstk, List.map_cons, List.reverse_cons, List.append_assoc]
      rfl
    exact callW (va_runU (Ts := []) (nL := c.maxLocals) (own := cNm (mcL.getD y 99)) (C := "java/lang/StringBuilder") (owner := "java/lang/AbstractStringBuilder") (x := mNm y') (b := adF Γ a) (n := as'.length) (As := as'.map (tvF Γ)) (rest := st.map (tvF Γ)) ⟨hx, hb, rfl, hown, fun _ h => absurd h List.not_mem_nil⟩ met
      ⟨⟨rfl, rfl, hd1, hlo, hwsw, List.mem_singleton.mpr rfl⟩, hcd, hini, ⟨by decide, by decide⟩, har, hlink, hsame, by rw [hself]; exact va_Decl.of hsm hcd, hsel, hsm⟩ ⟨c_pre_blind, hrv, hpc⟩ rfl (List.length_map ..) hsz hstk2 hrm hdg hcells) hkk
  · -- under another name
    obtain ⟨e1, e2⟩ := Prod.mk.inj (uT_eq hmem)
    obtain ⟨e2, e3⟩ := Prod.mk.inj e2
    subst e2 e3
    have hst2 : stL.getD m_SB_length true = false := by decide +kernel
    have har : ∀ sig, parseMethodDescriptor (mNm m_SB_length).desc = some sig → as'.length = sig.parameters.length := fun sig h => by
      rw [h, hst2] at f7
      have := Option.some.inj f7
      simp only [cond_false] at this
      rw [List.length_cons] at hlen
      omega
    have hiy := f9 hst2
    have hsm := hE.1 _ (w_inst _ hiy.1) rfl args
    have hsm2 : (Cond.instanceMethod ⟨"java/lang/AbstractStringBuilder", "length", "()I"⟩).before args s = true := hE.1 _ (w_inst m_AB_length (by decide +kernel)) rfl args
    have hcd2 : (Cond.code ⟨"java/lang/AbstractStringBuilder", "length", "()I"⟩ (cdM m_AB_length) (mMx m_AB_length) (mRt m_AB_length)).before args s = true := hE.1 _ (w_code (y := m_AB_length) (by decide)) rfl args
    have hsame : (Cond.sameMethod "java/lang/AbstractStringBuilder" "java/lang/AbstractStringBuilder" "length" "()I").before args s = true := hE.1 _ (w_aSame m_AB_length (by decide +kernel)) rfl args
    have hlink : (Cond.methodLink (cNm (mcL.getD y 99)) 549 ⟨"java/lang/AbstractStringBuilder", "length", "()I"⟩).before args s = true := by rw [e1]; exact hE.1 _ w_uL rfl args
    have hrv := recvK hE hH hM hS hka (by decide)
    have hstk2 : (((vR (some a)) :: as').reverse ++ st).map (tvF Γ) = (as'.map (tvF Γ)).reverse ++ Value.ref (adF Γ a) :: st.map (tvF Γ) := by
      rw [hstk, List.map_cons, List.reverse_cons, List.append_assoc]
      rfl
    exact callW (va_runU (Ts := []) (nL := c.maxLocals) (own := cNm (mcL.getD y 99)) (C := "java/lang/StringBuilder") (owner := "java/lang/AbstractStringBuilder") (x := ⟨"java/lang/AbstractStringBuilder", "length", "()I"⟩) (b := adF Γ a) (n := as'.length) (As := as'.map (tvF Γ)) (rest := st.map (tvF Γ)) ⟨hx, hb, rfl, hown, fun _ h => absurd h List.not_mem_nil⟩ met
      ⟨⟨rfl, rfl, hd1, hlo, hwsw, List.mem_singleton.mpr rfl⟩, hcd, hini, ⟨by decide, by decide⟩, har, hlink, hsame, va_Decl.of hsm2 hcd2, hE.1 _ w_uSel rfl args, hsm⟩ ⟨c_pre_blind, hrv, hpc⟩ rfl (List.length_map ..) hsz hstk2 hrm hdg hcells) hkk
  · -- the superclass's own
    have har : ∀ sig, parseMethodDescriptor (mNm y').desc = some sig → as'.length = sig.parameters.length := fun sig h => by
      rw [h, hst2] at f7
      have := Option.some.inj f7
      simp only [cond_false] at this
      rw [List.length_cons] at hlen
      omega
    have hiy := f9 hst2
    have hasY : y' ∈ asYs := by
      have := List.all_eq_true.mp as_of y' (List.mem_range.mpr hy)
      rw [h19, hni] at this
      simpa using this
    have hcls : (mNm y').cls = "java/lang/AbstractStringBuilder" := by rw [f3, h19]; rfl
    have hsame := hE.1 _ (w_aSame _ hasY) rfl args
    have hsm := hE.1 _ (w_inst _ hiy.1) rfl args
    have hlink : (Cond.methodLink (cNm (mcL.getD y 99)) i (mNm y')).before args s = true := hE.1 _ (w_mTA _ (List.mem_filter.mpr ⟨hmem, by rw [h19]; rfl⟩)) rfl args
    have hno : (mNm y').name ≠ "<init>" := fun q => by
      have : isIni y' = true := by unfold isIni; rw [q]; rfl
      rw [hni] at this
      cases this
    obtain ⟨T, N, ty, hcl, -⟩ := clF_all hE 12 (by decide)
    have hat := (hE.2.1.1 _ _ hcl).2
    have hrv := recvK hE hH hM hS hka (by decide)
    have hstk2 : (((vR (some a)) :: as').reverse ++ st).map (tvF Γ) = (as'.map (tvF Γ)).reverse ++ Value.ref (adF Γ a) :: st.map (tvF Γ) := by
      rw [hstk, List.map_cons, List.reverse_cons, List.append_assoc]
      rfl
    exact callW (va_runSU (Ts := []) (nL := c.maxLocals) (own := cNm (mcL.getD y 99)) (C := "java/lang/StringBuilder") (cC := (cxD Γ).1 12) (b := adF Γ a) (n := as'.length) (As := as'.map (tvF Γ)) (rest := st.map (tvF Γ)) hat ⟨hx, hb, rfl, hown, fun _ h => absurd h List.not_mem_nil⟩ met
      ⟨⟨rfl, rfl, hd1, hlo, hwsw, List.mem_singleton.mpr rfl⟩, hlink, by rw [hcls] at hsame ⊢; exact hsame, by rw [hcls, ho12]; exact hE.1 _ w_sup rfl args, hsm, hini, hcd, hno, har⟩ ⟨c_pre_blind, hrv, hpc⟩ rfl (List.length_map ..) hsz hstk2 hrm hdg hcells) hkk
end CALL
set_option maxHeartbeats 4000000 in
theorem run_ok : ∀ (n d y pc : Nat) (ls st : List PV) (M : PM) (v : Option PV) (M2 : PM), exec GG n d y pc ls st M = some (v, M2) → RunS d y pc ls st M v M2 := by
  intro n
  induction n with
  | zero => intro d y pc ls st M v M2 h; cases h
  | succ n ih =>
    intro d y pc ls st M v M2 h p l e R s m args below meth c H locs Q Γ lk z0 l0 hx hb hml hown hE hH hini hd1 hd2 hz hl0 hc1 hc2 hLR hM hS K
    have hgr := exec_grow _ _ _ _ _ _ _ _ _ h
    unfold exec at h
    cases hc : GG.1 y pc with
    | none => rw [hc] at h; cases h
    | some e0 =>
      rw [hc] at h
      dsimp only at h
      cases ho : opF GG.2.2.2.2 GG.2.2.2.1 d (GG.2.1 y) e0 pc ls st M with
      | none => rw [ho] at h; cases h
      | some o =>
        have hg := op_grow ho
        rw [ho] at h
        try dsimp only at h
        refine step_ok hc hx hb hml hown hE hH hini hd1 hd2 (z0 := z0) (l0 := l0) ?_ hz hl0 hLR hM hS
        rw [show opF XF (fun y => rcL.getD y 99) d (rkL.getD y 0) e0 pc ls st M = some o from ho]
        obtain ⟨pc', ls', st', M'⟩ | r' | ⟨y', as, M', pc', ls', st'⟩ := o
        · have hg2 := exec_grow _ _ _ _ _ _ _ _ _ h
          have hg1 : pSz M ≤ pSz M' ∧ pSl M ≤ pSl M' := hg
          refine And.intro ⟨by omega, by omega⟩ ?_
          intro lk' H' locs' hLR' hM' hS'
          exact ih _ _ _ _ _ _ _ _ h hx hb hml hown hE hH hini hd1 hd2 (by omega) (by omega) hc1 hc2 hLR' hM' hS' K
        · cases h
          intro pc' lk' H' locs' hr hM' hS'
          exact K pc' lk' H' locs' hr hM' hS'
        · cases d with
          | zero => cases h
          | succ d' =>
            dsimp only at h
            have hg1 : pSz M ≤ pSz M' ∧ pSl M ≤ pSl M' := hg
            cases hr : exec GG n d' y' 0 (locE GG y' as) [] M' with
            | none => rw [hr] at h; cases h
            | some q =>
              rw [hr] at h
              obtain ⟨w, M1⟩ := q
              dsimp only at h
              have hg2 := exec_grow _ _ _ _ _ _ _ _ _ hr
              have hg3 := exec_grow _ _ _ _ _ _ _ _ _ h
              intro pc2 lk' H' locs' hpc hca hst hLR' hM' hS'
              subst hpc
              refine call_ok hca (ih _ _ _ _ _ _ _ _ hr) hg2 hx hb hml hown hE hH hd1 hd2 (by omega) (by omega) (by omega) (by omega) hst hLR' hM' hS' ?_
              intro H1 locs1 hM1 hS1
              exact ih _ _ _ _ _ _ _ _ h hx hb hml hown hE hH hini hd1 hd2 (by omega) (by omega) hc1 hc2 hLR' hM1 hS1 K
