/-! What nothing else refers to, stays as it is. -/
def outV (A : Nat → Prop) (z : Nat) (v : PV) : Prop := match v with
  | .inr (.inl (some b)) => b < z ∧ ¬ A b
  | _ => True
def outL (A : Nat → Prop) (z : Nat) (l : List PV) : Prop := ∀ v ∈ l, outV A z v
/-- the cells of A are known to themselves alone, and each reference is to a cell -/
def clo (A : Nat → Prop) (M : PM) : Prop := 159 ≤ pSz M ∧ (∀ a, A a → 159 ≤ a ∧ a < pSz M) ∧ ∀ a k b, a < pSz M → pR M a k = some b → b < pSz M ∧ (¬ A a → ¬ A b)
def FK (A : Nat → Prop) (M M' : PM) : Prop := pSz M ≤ pSz M' ∧ clo A M' ∧ (∀ a, a < pSz M → pKd M' a = pKd M a ∧ pLn M' a = pLn M a) ∧ ∀ a, A a → ∀ k, pI M' a k = pI M a k ∧ pR M' a k = pR M a k
theorem outL.nil {A : Nat → Prop} {z : Nat} : outL A z [] := fun _ h => nomatch h
theorem outL.cons {A : Nat → Prop} {z : Nat} {v : PV} {l : List PV} (h : outV A z v) (h2 : outL A z l) : outL A z (v :: l) := fun w hw => by
  rcases List.mem_cons.mp hw with rfl | hw
  · exact h
  · exact h2 w hw
theorem outL.hd {A : Nat → Prop} {z : Nat} {v : PV} {l : List PV} (h : outL A z (v :: l)) : outV A z v := h v (List.mem_cons_self ..)
theorem outL.tl {A : Nat → Prop} {z : Nat} {v : PV} {l : List PV} (h : outL A z (v :: l)) : outL A z l := fun w hw => h w (List.mem_cons_of_mem _ hw)
theorem outL.sub {A : Nat → Prop} {z : Nat} {l l2 : List PV} (h : outL A z l) (hs : ∀ v ∈ l2, v ∈ l) : outL A z l2 := fun w hw => h w (hs w hw)
theorem outL.app {A : Nat → Prop} {z : Nat} {l l2 : List PV} (h : outL A z l) (h2 : outL A z l2) : outL A z (l ++ l2) := fun w hw => by
  rcases List.mem_append.mp hw with hw | hw
  · exact h w hw
  · exact h2 w hw
theorem outV.le {A : Nat → Prop} {z z2 : Nat} {v : PV} (h : outV A z v) (hz : z ≤ z2) : outV A z2 v := by
  unfold outV at h ⊢
  split
  · exact ⟨Nat.lt_of_lt_of_le h.1 hz, h.2⟩
  · trivial
theorem outL.le {A : Nat → Prop} {z z2 : Nat} {l : List PV} (h : outL A z l) (hz : z ≤ z2) : outL A z2 l := fun w hw => (h w hw).le hz
theorem outL.set {A : Nat → Prop} {z k : Nat} {v : PV} {l : List PV} (h : outL A z l) (h2 : outV A z v) : outL A z (l.set k v) := fun w hw => by
  rcases List.mem_or_eq_of_mem_set hw with hw | rfl
  · exact h w hw
  · exact h2
theorem outL.get {A : Nat → Prop} {z k : Nat} {v : PV} {l : List PV} (h : outL A z l) (hg : l[k]? = some v) : outV A z v := h v (List.mem_of_getElem? hg)
theorem outL.rep {A : Nat → Prop} {z n : Nat} : outL A z (List.replicate n vT) := fun w hw => by
  rw [(List.mem_replicate.mp hw).2]
  trivial
theorem outV.i {A : Nat → Prop} {z : Nat} {x : Int32} : outV A z (vI x) := trivial
theorem outV.l {A : Nat → Prop} {z : Nat} {x : Int64} : outV A z (vL x) := trivial
theorem outV.n {A : Nat → Prop} {z : Nat} : outV A z (vR none) := trivial
theorem FK.rf {A : Nat → Prop} {M : PM} (hc : clo A M) : FK A M M := ⟨Nat.le_refl _, hc, fun _ _ => ⟨rfl, rfl⟩, fun _ _ _ => ⟨rfl, rfl⟩⟩
theorem FK.tr {A : Nat → Prop} {M M2 M3 : PM} (h0 : clo A M) (h : FK A M M2) (h2 : FK A M2 M3) : FK A M M3 := ⟨Nat.le_trans h.1 h2.1, h2.2.1, fun a ha => by
    have q := h.2.2.1 a ha
    have r := h2.2.2.1 a (Nat.lt_of_lt_of_le ha h.1)
    exact ⟨r.1.trans q.1, r.2.trans q.2⟩, fun a ha k => by
    have q := h.2.2.2 a ha k
    have r := h2.2.2.2 a ha k
    exact ⟨r.1.trans q.1, r.2.trans q.2⟩⟩
theorem FK.mk {A : Nat → Prop} {M : PM} (hc : clo A M) {c n : Nat} : FK A M (mkN M c n) := by
  obtain ⟨c0, c1, c2⟩ := hc
  refine ⟨Nat.le_succ _, ⟨Nat.le_trans c0 (Nat.le_succ _), fun a ha => ⟨(c1 a ha).1, Nat.lt_succ_of_lt (c1 a ha).2⟩, fun a k b ha hb => ?_⟩, fun a ha => ?_, fun a ha k => ?_⟩
  · have hb' : upr (pR M) (pSz M) none a k = some b := hb
    unfold upr at hb'
    split at hb'
    · cases hb'
    · rename_i hne
      have ha' : a < pSz M := Nat.lt_of_le_of_ne (Nat.le_of_lt_succ ha) hne
      have := c2 a k b ha' hb'
      exact ⟨Nat.lt_succ_of_lt this.1, this.2⟩
  · have hne : a ≠ pSz M := Nat.ne_of_lt ha
    constructor
    · show up1 _ _ _ a = _
      unfold up1
      rw [if_neg hne]
    · show up1 _ _ _ a = _
      unfold up1
      rw [if_neg hne]
  · have hne : a ≠ pSz M := Nat.ne_of_lt (c1 a ha).2
    constructor
    · show upr _ _ _ a k = _
      unfold upr
      rw [if_neg hne]
    · show upr _ _ _ a k = _
      unfold upr
      rw [if_neg hne]
theorem FK.gmk {A : Nat → Prop} {M : PM} (hc : clo A M) {n m : Nat} : FK A M (mkG M n m) := by
  obtain ⟨c0, c1, c2⟩ := hc
  have hz : pSz (mkG M n m) = pSz M + (1 + n) := rfl
  refine ⟨by omega, ⟨by omega, fun a ha => ⟨(c1 a ha).1, by have := (c1 a ha).2; omega⟩, fun a k b ha hb => ?_⟩, fun a ha => ?_, fun a ha k => ?_⟩
  · have hb' : (if a = pSz M then (if k < n then some (pSz M + 1 + k) else none) else if pSz M < a ∧ a < pSz M + (1 + n) then none else pR M a k) = some b := hb
    split at hb'
    · split at hb'
      · cases hb'
        exact ⟨by omega, fun _ q => by have := (c1 _ q).2; omega⟩
      · cases hb'
    · split at hb'
      · cases hb'
      · have := c2 a k b (by omega) hb'
        exact ⟨by omega, this.2⟩
  · constructor
    · show (if a = pSz M then 27 else if pSz M < a ∧ a < pSz M + (1 + n) then 20 else pKd M a) = _
      rw [if_neg (by omega), if_neg (by omega)]
    · show (if a = pSz M then n else if pSz M < a ∧ a < pSz M + (1 + n) then m else pLn M a) = _
      rw [if_neg (by omega), if_neg (by omega)]
  · have hlt := (c1 a ha).2
    constructor
    · show (if pSz M ≤ a ∧ a < pSz M + (1 + n) then 0 else pI M a k) = _
      rw [if_neg (by omega)]
    · show (if a = pSz M then (if k < n then some (pSz M + 1 + k) else none) else if pSz M < a ∧ a < pSz M + (1 + n) then none else pR M a k) = _
      rw [if_neg (by omega), if_neg (by omega)]
theorem FK.setR {A : Nat → Prop} {M : PM} (hc : clo A M) {a j : Nat} {v : Option Nat} (ha : outV A (pSz M) (vR (some a))) (hv : outV A (pSz M) (vR v)) : FK A M (setR M a j v) := by
  obtain ⟨c0, c1, c2⟩ := hc
  refine ⟨Nat.le_refl _, ⟨c0, c1, fun q k b hq hb => ?_⟩, fun _ _ => ⟨rfl, rfl⟩, fun q hq k => ⟨rfl, ?_⟩⟩
  · have hb' : up2 (pR M) a j v q k = some b := hb
    unfold up2 at hb'
    split at hb'
    · cases v with
      | none => cases hb'
      | some w =>
        cases hb'
        exact ⟨hv.1, fun _ => hv.2⟩
    · exact c2 q k b hq hb'
  · show up2 _ _ _ _ q k = _
    unfold up2
    rw [if_neg (fun z => ha.2 (by rw [← z.1]; exact hq))]
theorem FK.setI {A : Nat → Prop} {M : PM} (hc : clo A M) {a j : Nat} {v : Int32} (ha : outV A (pSz M) (vR (some a))) : FK A M (setI M a j v) := by
  obtain ⟨c0, c1, c2⟩ := hc
  refine ⟨Nat.le_refl _, ⟨c0, c1, c2⟩, fun _ _ => ⟨rfl, rfl⟩, fun q hq k => ⟨?_, rfl⟩⟩
  show up2 _ _ _ _ q k = _
  unfold up2
  rw [if_neg (fun z => ha.2 (by rw [← z.1]; exact hq))]
theorem FK.cpy {A : Nat → Prop} {M : PM} (hc : clo A M) {a b sp dp n : Nat} (hb : ¬ A b) : FK A M (cpyM M a b sp dp n) := by
  obtain ⟨c0, c1, c2⟩ := hc
  refine ⟨Nat.le_refl _, ⟨c0, c1, c2⟩, fun _ _ => ⟨rfl, rfl⟩, fun q hq k => ⟨?_, rfl⟩⟩
  show cpI _ _ _ _ _ _ q k = _
  unfold cpI
  rw [if_neg (fun z => hb (by rw [← z.1]; exact hq))]
theorem FK.cpyN {A : Nat → Prop} {M : PM} (hc : clo A M) {a c n sp dp m : Nat} : FK A M (cpyM (mkN M c n) a (pSz M) sp dp m) :=
  (FK.mk hc).tr hc (FK.cpy (FK.mk hc).2.1 (fun q => absurd (hc.2.1 _ q).2 (Nat.lt_irrefl _)))
def FKo (A : Nat → Prop) (M : PM) (o : (Nat × List PV × List PV × PM) ⊕ ((Option PV × PM) ⊕ (Nat × List PV × PM × Nat × List PV × List PV))) : Prop := match o with
  | .inl q => FK A M q.2.2.2 ∧ outL A (pSz q.2.2.2) q.2.1 ∧ outL A (pSz q.2.2.2) q.2.2.1
  | .inr (.inl q) => FK A M q.2 ∧ outL A (pSz q.2) q.1.toList
  | .inr (.inr q) => FK A M q.2.2.1 ∧ outL A (pSz q.2.2.1) q.2.1 ∧ outL A (pSz q.2.2.1) q.2.2.2.2.1 ∧ outL A (pSz q.2.2.1) q.2.2.2.2.2
theorem fk_eq {A : Nat → Prop} {M M' : PM} {a b c} {o} (h : (some (.inl (a, b, c, M')) : OUT) = some o) (h1 : FK A M M') (h2 : outL A (pSz M') b) (h3 : outL A (pSz M') c) : FKo A M o := by
  cases h
  exact ⟨h1, h2, h3⟩
theorem fk_rt {A : Nat → Prop} {M : PM} {v} {o} (hc : clo A M) (h : (some (.inr (.inl (v, M))) : OUT) = some o) (h2 : outL A (pSz M) v.toList) : FKo A M o := by
  cases h
  exact ⟨FK.rf hc, h2⟩
theorem fk_cl {A : Nat → Prop} {M : PM} {y as pc ls st} {o} (hc : clo A M) (h : (some (.inr (.inr (y, as, M, pc, ls, st))) : OUT) = some o) (h1 : outL A (pSz M) as) (h2 : outL A (pSz M) ls) (h3 : outL A (pSz M) st) : FKo A M o := by
  cases h
  exact ⟨FK.rf hc, h1, h2, h3⟩
theorem fk_cl2 {A : Nat → Prop} {M : PM} {y pc n r : Nat} {ls st st' : List PV} {o} (hc : clo A M) (hs : outL A (pSz M) st) (hl : outL A (pSz M) ls) (h : (some (.inr (.inr (y, vR (some r) :: (st.take n).reverse, M, pc, ls, st'))) : OUT) = some o) (hd : st.drop n = vR (some r) :: st') : FKo A M o := by
  have hd2 : ∀ v ∈ vR (some r) :: st', v ∈ st := fun v hv => List.mem_of_mem_drop (by rw [hd]; exact hv)
  exact fk_cl hc h (outL.cons (hs _ (hd2 _ (List.mem_cons_self ..))) (fun v hv => hs v (List.mem_of_mem_take (List.mem_reverse.mp hv)))) hl (fun v hv => hs v (hd2 v (List.mem_cons_of_mem _ hv)))
theorem gz_le {M : PM} {n k : Nat} : pSz M ≤ pSz (mkG M n k) := Nat.le_add_right _ _
theorem gz_lt {M : PM} {n k : Nat} : pSz M < pSz (mkG M n k) := by
  show pSz M < pSz M + (1 + n)
  omega
theorem fk_tsw {A : Nat → Prop} {ls st : List PV} {M : PM} {x : Int32} {dflt : Nat} {o} (hc : clo A M) (h2 : outL A (pSz M) ls) (h3 : outL A (pSz M) st) : ∀ (l : List Nat) (lo : Int32), tsw (ρ := OUT) (fun c i a b => @ite _ c i a b) (fun t => some (.inl (t, ls, st, M))) x dflt lo l = some o → FKo A M o
  | [], _, h => fk_eq h (FK.rf hc) h2 h3
  | t :: ts, lo, h => by
    rcases gr_br h with h | h
    · exact fk_eq h (FK.rf hc) h2 h3
    · exact fk_tsw hc h2 h3 ts _ h
/-- what an instruction names lies before all that is made -/
def cstE (e : PE) : Prop := match e.1 with
  | .ldc _ => e.2.1 ≠ 0 → e.2.2.1 < 159
  | .ldc_w _ => e.2.1 ≠ 0 → e.2.2.1 < 159
  | .getstatic _ => e.2.1 ≠ 0 → e.2.2.1 < 159
  | _ => True
theorem out_c {A : Nat → Prop} {M : PM} (hc : clo A M) {a : Nat} (h : a < 159) : outV A (pSz M) (vR (some a)) := ⟨Nat.lt_of_lt_of_le h hc.1, fun q => by have := (hc.2.1 a q).1; omega⟩
theorem out_r {A : Nat → Prop} {M : PM} (hc : clo A M) {a k : Nat} (h : outV A (pSz M) (vR (some a))) : outV A (pSz M) (vR (pR M a k)) := by
  cases hr : pR M a k with
  | none => trivial
  | some b => exact ⟨(hc.2.2 a k b h.1 hr).1, (hc.2.2 a k b h.1 hr).2 h.2⟩
theorem out_n {A : Nat → Prop} {M : PM} (hc : clo A M) {z : Nat} (hz : pSz M < z) : outV A z (vR (some (pSz M))) := ⟨hz, fun q => absurd (hc.2.1 _ q).2 (Nat.lt_irrefl _)⟩
set_option maxHeartbeats 16000000 in
theorem op_fk {A : Nat → Prop} {X : PF} {mc : Nat → Nat} {d rk : Nat} {e : PE} {pc : Nat} {ls st : List PV} {M : PM} {o} (hc : clo A M) (hl : outL A (pSz M) ls) (hs : outL A (pSz M) st) (he : cstE e) (h : opF X mc d rk e pc ls st M = some o) : FKo A M o := by
  unfold opF op at h
  obtain ⟨i, a, b, z, l⟩ := e
  cases i
  all_goals first
    | (cases h; done)
    | exact fk_eq h (FK.rf hc) (by first | exact hl | exact outL.set hl trivial | exact outL.set (outL.set hl trivial) trivial | exact outL.set hl (outL.hd hs) | exact outL.le hl (Nat.le_succ _) | exact outL.le hl gz_le) (by first | exact hs | exact outL.tl hs | exact outL.tl (outL.tl hs) | exact outL.tl (outL.tl (outL.tl hs)) | exact outL.tl (outL.tl (outL.tl (outL.tl (outL.tl hs)))) | exact outL.cons trivial hs | exact outL.cons trivial (outL.tl hs) | exact outL.cons trivial (outL.tl (outL.tl hs)) | exact outL.cons trivial (outL.cons trivial (outL.tl hs)) | exact outL.cons (outL.hd hs) hs | exact outL.cons trivial (outL.cons (outL.hd (outL.tl hs)) hs) | exact outL.cons (outL.get hl (by assumption)) hs | exact outL.cons (out_r hc (outL.hd hs)) (outL.tl hs) | exact outL.cons (out_r hc (outL.hd (outL.tl hs))) (outL.tl (outL.tl hs)) | exact outL.cons (outL.hd hs) (outL.tl hs) | exact outL.cons (out_n hc (Nat.lt_succ_self _)) (outL.le hs (Nat.le_succ _)) | exact outL.cons (out_n hc (Nat.lt_succ_self _)) (outL.le (outL.tl hs) (Nat.le_succ _)) | exact outL.cons (out_n hc gz_lt) (outL.le (outL.tl (outL.tl hs)) gz_le))
    | exact fk_eq h (FK.mk hc) (by first | exact hl | exact outL.set hl trivial | exact outL.set (outL.set hl trivial) trivial | exact outL.set hl (outL.hd hs) | exact outL.le hl (Nat.le_succ _) | exact outL.le hl gz_le) (by first | exact hs | exact outL.tl hs | exact outL.tl (outL.tl hs) | exact outL.tl (outL.tl (outL.tl hs)) | exact outL.tl (outL.tl (outL.tl (outL.tl (outL.tl hs)))) | exact outL.cons trivial hs | exact outL.cons trivial (outL.tl hs) | exact outL.cons trivial (outL.tl (outL.tl hs)) | exact outL.cons trivial (outL.cons trivial (outL.tl hs)) | exact outL.cons (outL.hd hs) hs | exact outL.cons trivial (outL.cons (outL.hd (outL.tl hs)) hs) | exact outL.cons (outL.get hl (by assumption)) hs | exact outL.cons (out_r hc (outL.hd hs)) (outL.tl hs) | exact outL.cons (out_r hc (outL.hd (outL.tl hs))) (outL.tl (outL.tl hs)) | exact outL.cons (outL.hd hs) (outL.tl hs) | exact outL.cons (out_n hc (Nat.lt_succ_self _)) (outL.le hs (Nat.le_succ _)) | exact outL.cons (out_n hc (Nat.lt_succ_self _)) (outL.le (outL.tl hs) (Nat.le_succ _)) | exact outL.cons (out_n hc gz_lt) (outL.le (outL.tl (outL.tl hs)) gz_le))
    | (dsimp only at h
       repeat' split at h
       all_goals first
         | (cases h; done)
         | exact fk_eq h (FK.rf hc) (by first | exact hl | exact outL.set hl trivial | exact outL.set (outL.set hl trivial) trivial | exact outL.set hl (outL.hd hs) | exact outL.le hl (Nat.le_succ _) | exact outL.le hl gz_le) (by first | exact hs | exact outL.tl hs | exact outL.tl (outL.tl hs) | exact outL.tl (outL.tl (outL.tl hs)) | exact outL.tl (outL.tl (outL.tl (outL.tl (outL.tl hs)))) | exact outL.cons trivial hs | exact outL.cons trivial (outL.tl hs) | exact outL.cons trivial (outL.tl (outL.tl hs)) | exact outL.cons trivial (outL.cons trivial (outL.tl hs)) | exact outL.cons (outL.hd hs) hs | exact outL.cons trivial (outL.cons (outL.hd (outL.tl hs)) hs) | exact outL.cons (outL.get hl (by assumption)) hs | exact outL.cons (out_r hc (outL.hd hs)) (outL.tl hs) | exact outL.cons (out_r hc (outL.hd (outL.tl hs))) (outL.tl (outL.tl hs)) | exact outL.cons (outL.hd hs) (outL.tl hs) | exact outL.cons (out_n hc (Nat.lt_succ_self _)) (outL.le hs (Nat.le_succ _)) | exact outL.cons (out_n hc (Nat.lt_succ_self _)) (outL.le (outL.tl hs) (Nat.le_succ _)) | exact outL.cons (out_n hc gz_lt) (outL.le (outL.tl (outL.tl hs)) gz_le))
         | exact fk_eq h (FK.rf hc) hl (outL.cons (out_c hc (he (Nat.succ_ne_zero _))) hs)
         | exact fk_eq (gr_ite h) (FK.rf hc) (by first | exact hl | exact outL.set hl trivial | exact outL.set (outL.set hl trivial) trivial | exact outL.set hl (outL.hd hs) | exact outL.le hl (Nat.le_succ _) | exact outL.le hl gz_le) (by first | exact hs | exact outL.tl hs | exact outL.tl (outL.tl hs) | exact outL.tl (outL.tl (outL.tl hs)) | exact outL.tl (outL.tl (outL.tl (outL.tl (outL.tl hs)))) | exact outL.cons trivial hs | exact outL.cons trivial (outL.tl hs) | exact outL.cons trivial (outL.tl (outL.tl hs)) | exact outL.cons trivial (outL.cons trivial (outL.tl hs)) | exact outL.cons (outL.hd hs) hs | exact outL.cons trivial (outL.cons (outL.hd (outL.tl hs)) hs) | exact outL.cons (outL.get hl (by assumption)) hs | exact outL.cons (out_r hc (outL.hd hs)) (outL.tl hs) | exact outL.cons (out_r hc (outL.hd (outL.tl hs))) (outL.tl (outL.tl hs)) | exact outL.cons (outL.hd hs) (outL.tl hs) | exact outL.cons (out_n hc (Nat.lt_succ_self _)) (outL.le hs (Nat.le_succ _)) | exact outL.cons (out_n hc (Nat.lt_succ_self _)) (outL.le (outL.tl hs) (Nat.le_succ _)) | exact outL.cons (out_n hc gz_lt) (outL.le (outL.tl (outL.tl hs)) gz_le))
         | exact fk_rt hc h outL.nil
         | exact fk_rt hc h hs
         | exact fk_rt hc (gr_ite h) hs
         | exact fk_cl hc h (fun v hv => hs v (List.mem_of_mem_take (List.mem_reverse.mp hv))) hl (fun v hv => hs v (List.mem_of_mem_drop hv))
         | exact fk_tsw hc hl (outL.tl hs) _ _ h
         | (rcases gr_br h with h | h <;> exact fk_eq h (FK.rf hc) (by first | exact hl | exact outL.set hl trivial | exact outL.set (outL.set hl trivial) trivial | exact outL.set hl (outL.hd hs) | exact outL.le hl (Nat.le_succ _) | exact outL.le hl gz_le) (by first | exact hs | exact outL.tl hs | exact outL.tl (outL.tl hs) | exact outL.tl (outL.tl (outL.tl hs)) | exact outL.tl (outL.tl (outL.tl (outL.tl (outL.tl hs)))) | exact outL.cons trivial hs | exact outL.cons trivial (outL.tl hs) | exact outL.cons trivial (outL.tl (outL.tl hs)) | exact outL.cons trivial (outL.cons trivial (outL.tl hs)) | exact outL.cons (outL.hd hs) hs | exact outL.cons trivial (outL.cons (outL.hd (outL.tl hs)) hs) | exact outL.cons (outL.get hl (by assumption)) hs | exact outL.cons (out_r hc (outL.hd hs)) (outL.tl hs) | exact outL.cons (out_r hc (outL.hd (outL.tl hs))) (outL.tl (outL.tl hs)) | exact outL.cons (outL.hd hs) (outL.tl hs) | exact outL.cons (out_n hc (Nat.lt_succ_self _)) (outL.le hs (Nat.le_succ _)) | exact outL.cons (out_n hc (Nat.lt_succ_self _)) (outL.le (outL.tl hs) (Nat.le_succ _)) | exact outL.cons (out_n hc gz_lt) (outL.le (outL.tl (outL.tl hs)) gz_le)))
         | exact fk_eq (gr_ite h) (FK.mk hc) (by first | exact hl | exact outL.set hl trivial | exact outL.set (outL.set hl trivial) trivial | exact outL.set hl (outL.hd hs) | exact outL.le hl (Nat.le_succ _) | exact outL.le hl gz_le) (by first | exact hs | exact outL.tl hs | exact outL.tl (outL.tl hs) | exact outL.tl (outL.tl (outL.tl hs)) | exact outL.tl (outL.tl (outL.tl (outL.tl (outL.tl hs)))) | exact outL.cons trivial hs | exact outL.cons trivial (outL.tl hs) | exact outL.cons trivial (outL.tl (outL.tl hs)) | exact outL.cons trivial (outL.cons trivial (outL.tl hs)) | exact outL.cons (outL.hd hs) hs | exact outL.cons trivial (outL.cons (outL.hd (outL.tl hs)) hs) | exact outL.cons (outL.get hl (by assumption)) hs | exact outL.cons (out_r hc (outL.hd hs)) (outL.tl hs) | exact outL.cons (out_r hc (outL.hd (outL.tl hs))) (outL.tl (outL.tl hs)) | exact outL.cons (outL.hd hs) (outL.tl hs) | exact outL.cons (out_n hc (Nat.lt_succ_self _)) (outL.le hs (Nat.le_succ _)) | exact outL.cons (out_n hc (Nat.lt_succ_self _)) (outL.le (outL.tl hs) (Nat.le_succ _)) | exact outL.cons (out_n hc gz_lt) (outL.le (outL.tl (outL.tl hs)) gz_le))
         | exact fk_eq (gr_ite h) (FK.gmk hc) (by first | exact hl | exact outL.set hl trivial | exact outL.set (outL.set hl trivial) trivial | exact outL.set hl (outL.hd hs) | exact outL.le hl (Nat.le_succ _) | exact outL.le hl gz_le) (by first | exact hs | exact outL.tl hs | exact outL.tl (outL.tl hs) | exact outL.tl (outL.tl (outL.tl hs)) | exact outL.tl (outL.tl (outL.tl (outL.tl (outL.tl hs)))) | exact outL.cons trivial hs | exact outL.cons trivial (outL.tl hs) | exact outL.cons trivial (outL.tl (outL.tl hs)) | exact outL.cons trivial (outL.cons trivial (outL.tl hs)) | exact outL.cons (outL.hd hs) hs | exact outL.cons trivial (outL.cons (outL.hd (outL.tl hs)) hs) | exact outL.cons (outL.get hl (by assumption)) hs | exact outL.cons (out_r hc (outL.hd hs)) (outL.tl hs) | exact outL.cons (out_r hc (outL.hd (outL.tl hs))) (outL.tl (outL.tl hs)) | exact outL.cons (outL.hd hs) (outL.tl hs) | exact outL.cons (out_n hc (Nat.lt_succ_self _)) (outL.le hs (Nat.le_succ _)) | exact outL.cons (out_n hc (Nat.lt_succ_self _)) (outL.le (outL.tl hs) (Nat.le_succ _)) | exact outL.cons (out_n hc gz_lt) (outL.le (outL.tl (outL.tl hs)) gz_le))
         | exact fk_eq h (FK.gmk hc) (by first | exact hl | exact outL.set hl trivial | exact outL.set (outL.set hl trivial) trivial | exact outL.set hl (outL.hd hs) | exact outL.le hl (Nat.le_succ _) | exact outL.le hl gz_le) (by first | exact hs | exact outL.tl hs | exact outL.tl (outL.tl hs) | exact outL.tl (outL.tl (outL.tl hs)) | exact outL.tl (outL.tl (outL.tl (outL.tl (outL.tl hs)))) | exact outL.cons trivial hs | exact outL.cons trivial (outL.tl hs) | exact outL.cons trivial (outL.tl (outL.tl hs)) | exact outL.cons trivial (outL.cons trivial (outL.tl hs)) | exact outL.cons (outL.hd hs) hs | exact outL.cons trivial (outL.cons (outL.hd (outL.tl hs)) hs) | exact outL.cons (outL.get hl (by assumption)) hs | exact outL.cons (out_r hc (outL.hd hs)) (outL.tl hs) | exact outL.cons (out_r hc (outL.hd (outL.tl hs))) (outL.tl (outL.tl hs)) | exact outL.cons (outL.hd hs) (outL.tl hs) | exact outL.cons (out_n hc (Nat.lt_succ_self _)) (outL.le hs (Nat.le_succ _)) | exact outL.cons (out_n hc (Nat.lt_succ_self _)) (outL.le (outL.tl hs) (Nat.le_succ _)) | exact outL.cons (out_n hc gz_lt) (outL.le (outL.tl (outL.tl hs)) gz_le))
         | exact fk_eq h (FK.mk hc) (by first | exact hl | exact outL.set hl trivial | exact outL.set (outL.set hl trivial) trivial | exact outL.set hl (outL.hd hs) | exact outL.le hl (Nat.le_succ _) | exact outL.le hl gz_le) (by first | exact hs | exact outL.tl hs | exact outL.tl (outL.tl hs) | exact outL.tl (outL.tl (outL.tl hs)) | exact outL.tl (outL.tl (outL.tl (outL.tl (outL.tl hs)))) | exact outL.cons trivial hs | exact outL.cons trivial (outL.tl hs) | exact outL.cons trivial (outL.tl (outL.tl hs)) | exact outL.cons trivial (outL.cons trivial (outL.tl hs)) | exact outL.cons (outL.hd hs) hs | exact outL.cons trivial (outL.cons (outL.hd (outL.tl hs)) hs) | exact outL.cons (outL.get hl (by assumption)) hs | exact outL.cons (out_r hc (outL.hd hs)) (outL.tl hs) | exact outL.cons (out_r hc (outL.hd (outL.tl hs))) (outL.tl (outL.tl hs)) | exact outL.cons (outL.hd hs) (outL.tl hs) | exact outL.cons (out_n hc (Nat.lt_succ_self _)) (outL.le hs (Nat.le_succ _)) | exact outL.cons (out_n hc (Nat.lt_succ_self _)) (outL.le (outL.tl hs) (Nat.le_succ _)) | exact outL.cons (out_n hc gz_lt) (outL.le (outL.tl (outL.tl hs)) gz_le))
         | (have h9 := gr_onR h
            clear h
            obtain ⟨r, hr, h⟩ := h9
            subst hr
            first
              | exact fk_eq h (FK.rf hc) (by first | exact hl | exact outL.set hl trivial | exact outL.set (outL.set hl trivial) trivial | exact outL.set hl (outL.hd hs) | exact outL.le hl (Nat.le_succ _) | exact outL.le hl gz_le) (by first | exact hs | exact outL.tl hs | exact outL.tl (outL.tl hs) | exact outL.tl (outL.tl (outL.tl hs)) | exact outL.tl (outL.tl (outL.tl (outL.tl (outL.tl hs)))) | exact outL.cons trivial hs | exact outL.cons trivial (outL.tl hs) | exact outL.cons trivial (outL.tl (outL.tl hs)) | exact outL.cons trivial (outL.cons trivial (outL.tl hs)) | exact outL.cons (outL.hd hs) hs | exact outL.cons trivial (outL.cons (outL.hd (outL.tl hs)) hs) | exact outL.cons (outL.get hl (by assumption)) hs | exact outL.cons (out_r hc (outL.hd hs)) (outL.tl hs) | exact outL.cons (out_r hc (outL.hd (outL.tl hs))) (outL.tl (outL.tl hs)) | exact outL.cons (outL.hd hs) (outL.tl hs) | exact outL.cons (out_n hc (Nat.lt_succ_self _)) (outL.le hs (Nat.le_succ _)) | exact outL.cons (out_n hc (Nat.lt_succ_self _)) (outL.le (outL.tl hs) (Nat.le_succ _)) | exact outL.cons (out_n hc gz_lt) (outL.le (outL.tl (outL.tl hs)) gz_le))
              | exact fk_eq (gr_ite h) (FK.rf hc) (by first | exact hl | exact outL.set hl trivial | exact outL.set (outL.set hl trivial) trivial | exact outL.set hl (outL.hd hs) | exact outL.le hl (Nat.le_succ _) | exact outL.le hl gz_le) (by first | exact hs | exact outL.tl hs | exact outL.tl (outL.tl hs) | exact outL.tl (outL.tl (outL.tl hs)) | exact outL.tl (outL.tl (outL.tl (outL.tl (outL.tl hs)))) | exact outL.cons trivial hs | exact outL.cons trivial (outL.tl hs) | exact outL.cons trivial (outL.tl (outL.tl hs)) | exact outL.cons trivial (outL.cons trivial (outL.tl hs)) | exact outL.cons (outL.hd hs) hs | exact outL.cons trivial (outL.cons (outL.hd (outL.tl hs)) hs) | exact outL.cons (outL.get hl (by assumption)) hs | exact outL.cons (out_r hc (outL.hd hs)) (outL.tl hs) | exact outL.cons (out_r hc (outL.hd (outL.tl hs))) (outL.tl (outL.tl hs)) | exact outL.cons (outL.hd hs) (outL.tl hs) | exact outL.cons (out_n hc (Nat.lt_succ_self _)) (outL.le hs (Nat.le_succ _)) | exact outL.cons (out_n hc (Nat.lt_succ_self _)) (outL.le (outL.tl hs) (Nat.le_succ _)) | exact outL.cons (out_n hc gz_lt) (outL.le (outL.tl (outL.tl hs)) gz_le))
              | exact fk_eq (gr_ite (gr_ite h)) (FK.rf hc) (by first | exact hl | exact outL.set hl trivial | exact outL.set (outL.set hl trivial) trivial | exact outL.set hl (outL.hd hs) | exact outL.le hl (Nat.le_succ _) | exact outL.le hl gz_le) (by first | exact hs | exact outL.tl hs | exact outL.tl (outL.tl hs) | exact outL.tl (outL.tl (outL.tl hs)) | exact outL.tl (outL.tl (outL.tl (outL.tl (outL.tl hs)))) | exact outL.cons trivial hs | exact outL.cons trivial (outL.tl hs) | exact outL.cons trivial (outL.tl (outL.tl hs)) | exact outL.cons trivial (outL.cons trivial (outL.tl hs)) | exact outL.cons (outL.hd hs) hs | exact outL.cons trivial (outL.cons (outL.hd (outL.tl hs)) hs) | exact outL.cons (outL.get hl (by assumption)) hs | exact outL.cons (out_r hc (outL.hd hs)) (outL.tl hs) | exact outL.cons (out_r hc (outL.hd (outL.tl hs))) (outL.tl (outL.tl hs)) | exact outL.cons (outL.hd hs) (outL.tl hs) | exact outL.cons (out_n hc (Nat.lt_succ_self _)) (outL.le hs (Nat.le_succ _)) | exact outL.cons (out_n hc (Nat.lt_succ_self _)) (outL.le (outL.tl hs) (Nat.le_succ _)) | exact outL.cons (out_n hc gz_lt) (outL.le (outL.tl (outL.tl hs)) gz_le))
              | exact fk_eq (gr_ite (gr_ite (gr_ite h))) (FK.setR hc (outL.hd (outL.tl (outL.tl hs))) (outL.hd hs)) (by first | exact hl | exact outL.set hl trivial | exact outL.set (outL.set hl trivial) trivial | exact outL.set hl (outL.hd hs) | exact outL.le hl (Nat.le_succ _) | exact outL.le hl gz_le) (by first | exact hs | exact outL.tl hs | exact outL.tl (outL.tl hs) | exact outL.tl (outL.tl (outL.tl hs)) | exact outL.tl (outL.tl (outL.tl (outL.tl (outL.tl hs)))) | exact outL.cons trivial hs | exact outL.cons trivial (outL.tl hs) | exact outL.cons trivial (outL.tl (outL.tl hs)) | exact outL.cons trivial (outL.cons trivial (outL.tl hs)) | exact outL.cons (outL.hd hs) hs | exact outL.cons trivial (outL.cons (outL.hd (outL.tl hs)) hs) | exact outL.cons (outL.get hl (by assumption)) hs | exact outL.cons (out_r hc (outL.hd hs)) (outL.tl hs) | exact outL.cons (out_r hc (outL.hd (outL.tl hs))) (outL.tl (outL.tl hs)) | exact outL.cons (outL.hd hs) (outL.tl hs) | exact outL.cons (out_n hc (Nat.lt_succ_self _)) (outL.le hs (Nat.le_succ _)) | exact outL.cons (out_n hc (Nat.lt_succ_self _)) (outL.le (outL.tl hs) (Nat.le_succ _)) | exact outL.cons (out_n hc gz_lt) (outL.le (outL.tl (outL.tl hs)) gz_le))
              | exact fk_eq (gr_ite (gr_ite h)) (FK.setI hc (outL.hd (outL.tl (outL.tl hs)))) (by first | exact hl | exact outL.set hl trivial | exact outL.set (outL.set hl trivial) trivial | exact outL.set hl (outL.hd hs) | exact outL.le hl (Nat.le_succ _) | exact outL.le hl gz_le) (by first | exact hs | exact outL.tl hs | exact outL.tl (outL.tl hs) | exact outL.tl (outL.tl (outL.tl hs)) | exact outL.tl (outL.tl (outL.tl (outL.tl (outL.tl hs)))) | exact outL.cons trivial hs | exact outL.cons trivial (outL.tl hs) | exact outL.cons trivial (outL.tl (outL.tl hs)) | exact outL.cons trivial (outL.cons trivial (outL.tl hs)) | exact outL.cons (outL.hd hs) hs | exact outL.cons trivial (outL.cons (outL.hd (outL.tl hs)) hs) | exact outL.cons (outL.get hl (by assumption)) hs | exact outL.cons (out_r hc (outL.hd hs)) (outL.tl hs) | exact outL.cons (out_r hc (outL.hd (outL.tl hs))) (outL.tl (outL.tl hs)) | exact outL.cons (outL.hd hs) (outL.tl hs) | exact outL.cons (out_n hc (Nat.lt_succ_self _)) (outL.le hs (Nat.le_succ _)) | exact outL.cons (out_n hc (Nat.lt_succ_self _)) (outL.le (outL.tl hs) (Nat.le_succ _)) | exact outL.cons (out_n hc gz_lt) (outL.le (outL.tl (outL.tl hs)) gz_le))
              | exact fk_eq (gr_ite h) (FK.cpyN hc) (by first | exact hl | exact outL.set hl trivial | exact outL.set (outL.set hl trivial) trivial | exact outL.set hl (outL.hd hs) | exact outL.le hl (Nat.le_succ _) | exact outL.le hl gz_le) (by first | exact hs | exact outL.tl hs | exact outL.tl (outL.tl hs) | exact outL.tl (outL.tl (outL.tl hs)) | exact outL.tl (outL.tl (outL.tl (outL.tl (outL.tl hs)))) | exact outL.cons trivial hs | exact outL.cons trivial (outL.tl hs) | exact outL.cons trivial (outL.tl (outL.tl hs)) | exact outL.cons trivial (outL.cons trivial (outL.tl hs)) | exact outL.cons (outL.hd hs) hs | exact outL.cons trivial (outL.cons (outL.hd (outL.tl hs)) hs) | exact outL.cons (outL.get hl (by assumption)) hs | exact outL.cons (out_r hc (outL.hd hs)) (outL.tl hs) | exact outL.cons (out_r hc (outL.hd (outL.tl hs))) (outL.tl (outL.tl hs)) | exact outL.cons (outL.hd hs) (outL.tl hs) | exact outL.cons (out_n hc (Nat.lt_succ_self _)) (outL.le hs (Nat.le_succ _)) | exact outL.cons (out_n hc (Nat.lt_succ_self _)) (outL.le (outL.tl hs) (Nat.le_succ _)) | exact outL.cons (out_n hc gz_lt) (outL.le (outL.tl (outL.tl hs)) gz_le))
              | exact fk_cl2 hc hs hl (gr_ite h) (by assumption)
              | (have h9 := gr_onR h
                 clear h
                 obtain ⟨r2, hr2, h2⟩ := h9
                 subst hr2
                 first
                   | exact fk_eq (gr_ite (gr_ite h2)) (FK.cpy hc (outL.hd (outL.tl (outL.tl hs))).2) (by first | exact hl | exact outL.set hl trivial | exact outL.set (outL.set hl trivial) trivial | exact outL.set hl (outL.hd hs) | exact outL.le hl (Nat.le_succ _) | exact outL.le hl gz_le) (by first | exact hs | exact outL.tl hs | exact outL.tl (outL.tl hs) | exact outL.tl (outL.tl (outL.tl hs)) | exact outL.tl (outL.tl (outL.tl (outL.tl (outL.tl hs)))) | exact outL.cons trivial hs | exact outL.cons trivial (outL.tl hs) | exact outL.cons trivial (outL.tl (outL.tl hs)) | exact outL.cons trivial (outL.cons trivial (outL.tl hs)) | exact outL.cons (outL.hd hs) hs | exact outL.cons trivial (outL.cons (outL.hd (outL.tl hs)) hs) | exact outL.cons (outL.get hl (by assumption)) hs | exact outL.cons (out_r hc (outL.hd hs)) (outL.tl hs) | exact outL.cons (out_r hc (outL.hd (outL.tl hs))) (outL.tl (outL.tl hs)) | exact outL.cons (outL.hd hs) (outL.tl hs) | exact outL.cons (out_n hc (Nat.lt_succ_self _)) (outL.le hs (Nat.le_succ _)) | exact outL.cons (out_n hc (Nat.lt_succ_self _)) (outL.le (outL.tl hs) (Nat.le_succ _)) | exact outL.cons (out_n hc gz_lt) (outL.le (outL.tl (outL.tl hs)) gz_le))
                   | exact fk_eq (gr_ite (gr_ite h2)) (FK.setR hc (outL.hd (outL.tl (outL.tl hs))) (outL.hd hs)) (by first | exact hl | exact outL.set hl trivial | exact outL.set (outL.set hl trivial) trivial | exact outL.set hl (outL.hd hs) | exact outL.le hl (Nat.le_succ _) | exact outL.le hl gz_le) (by first | exact hs | exact outL.tl hs | exact outL.tl (outL.tl hs) | exact outL.tl (outL.tl (outL.tl hs)) | exact outL.tl (outL.tl (outL.tl (outL.tl (outL.tl hs)))) | exact outL.cons trivial hs | exact outL.cons trivial (outL.tl hs) | exact outL.cons trivial (outL.tl (outL.tl hs)) | exact outL.cons trivial (outL.cons trivial (outL.tl hs)) | exact outL.cons (outL.hd hs) hs | exact outL.cons trivial (outL.cons (outL.hd (outL.tl hs)) hs) | exact outL.cons (outL.get hl (by assumption)) hs | exact outL.cons (out_r hc (outL.hd hs)) (outL.tl hs) | exact outL.cons (out_r hc (outL.hd (outL.tl hs))) (outL.tl (outL.tl hs)) | exact outL.cons (outL.hd hs) (outL.tl hs) | exact outL.cons (out_n hc (Nat.lt_succ_self _)) (outL.le hs (Nat.le_succ _)) | exact outL.cons (out_n hc (Nat.lt_succ_self _)) (outL.le (outL.tl hs) (Nat.le_succ _)) | exact outL.cons (out_n hc gz_lt) (outL.le (outL.tl (outL.tl hs)) gz_le)))
              | (replace h := gr_ite h
                 repeat' split at h
                 all_goals first
                   | (cases h; done)
                   | exact fk_eq h (FK.rf hc) (by first | exact hl | exact outL.set hl trivial | exact outL.set (outL.set hl trivial) trivial | exact outL.set hl (outL.hd hs) | exact outL.le hl (Nat.le_succ _) | exact outL.le hl gz_le) (by first | exact hs | exact outL.tl hs | exact outL.tl (outL.tl hs) | exact outL.tl (outL.tl (outL.tl hs)) | exact outL.tl (outL.tl (outL.tl (outL.tl (outL.tl hs)))) | exact outL.cons trivial hs | exact outL.cons trivial (outL.tl hs) | exact outL.cons trivial (outL.tl (outL.tl hs)) | exact outL.cons trivial (outL.cons trivial (outL.tl hs)) | exact outL.cons (outL.hd hs) hs | exact outL.cons trivial (outL.cons (outL.hd (outL.tl hs)) hs) | exact outL.cons (outL.get hl (by assumption)) hs | exact outL.cons (out_r hc (outL.hd hs)) (outL.tl hs) | exact outL.cons (out_r hc (outL.hd (outL.tl hs))) (outL.tl (outL.tl hs)) | exact outL.cons (outL.hd hs) (outL.tl hs) | exact outL.cons (out_n hc (Nat.lt_succ_self _)) (outL.le hs (Nat.le_succ _)) | exact outL.cons (out_n hc (Nat.lt_succ_self _)) (outL.le (outL.tl hs) (Nat.le_succ _)) | exact outL.cons (out_n hc gz_lt) (outL.le (outL.tl (outL.tl hs)) gz_le))
                   | exact fk_eq h (FK.setR hc (outL.hd (outL.tl hs)) (outL.hd hs)) (by first | exact hl | exact outL.set hl trivial | exact outL.set (outL.set hl trivial) trivial | exact outL.set hl (outL.hd hs) | exact outL.le hl (Nat.le_succ _) | exact outL.le hl gz_le) (by first | exact hs | exact outL.tl hs | exact outL.tl (outL.tl hs) | exact outL.tl (outL.tl (outL.tl hs)) | exact outL.tl (outL.tl (outL.tl (outL.tl (outL.tl hs)))) | exact outL.cons trivial hs | exact outL.cons trivial (outL.tl hs) | exact outL.cons trivial (outL.tl (outL.tl hs)) | exact outL.cons trivial (outL.cons trivial (outL.tl hs)) | exact outL.cons (outL.hd hs) hs | exact outL.cons trivial (outL.cons (outL.hd (outL.tl hs)) hs) | exact outL.cons (outL.get hl (by assumption)) hs | exact outL.cons (out_r hc (outL.hd hs)) (outL.tl hs) | exact outL.cons (out_r hc (outL.hd (outL.tl hs))) (outL.tl (outL.tl hs)) | exact outL.cons (outL.hd hs) (outL.tl hs) | exact outL.cons (out_n hc (Nat.lt_succ_self _)) (outL.le hs (Nat.le_succ _)) | exact outL.cons (out_n hc (Nat.lt_succ_self _)) (outL.le (outL.tl hs) (Nat.le_succ _)) | exact outL.cons (out_n hc gz_lt) (outL.le (outL.tl (outL.tl hs)) gz_le))
                   | exact fk_eq (gr_ite h) (FK.setR hc (outL.hd (outL.tl hs)) (outL.hd hs)) (by first | exact hl | exact outL.set hl trivial | exact outL.set (outL.set hl trivial) trivial | exact outL.set hl (outL.hd hs) | exact outL.le hl (Nat.le_succ _) | exact outL.le hl gz_le) (by first | exact hs | exact outL.tl hs | exact outL.tl (outL.tl hs) | exact outL.tl (outL.tl (outL.tl hs)) | exact outL.tl (outL.tl (outL.tl (outL.tl (outL.tl hs)))) | exact outL.cons trivial hs | exact outL.cons trivial (outL.tl hs) | exact outL.cons trivial (outL.tl (outL.tl hs)) | exact outL.cons trivial (outL.cons trivial (outL.tl hs)) | exact outL.cons (outL.hd hs) hs | exact outL.cons trivial (outL.cons (outL.hd (outL.tl hs)) hs) | exact outL.cons (outL.get hl (by assumption)) hs | exact outL.cons (out_r hc (outL.hd hs)) (outL.tl hs) | exact outL.cons (out_r hc (outL.hd (outL.tl hs))) (outL.tl (outL.tl hs)) | exact outL.cons (outL.hd hs) (outL.tl hs) | exact outL.cons (out_n hc (Nat.lt_succ_self _)) (outL.le hs (Nat.le_succ _)) | exact outL.cons (out_n hc (Nat.lt_succ_self _)) (outL.le (outL.tl hs) (Nat.le_succ _)) | exact outL.cons (out_n hc gz_lt) (outL.le (outL.tl (outL.tl hs)) gz_le))
                   | exact fk_eq h (FK.setI hc (outL.hd (outL.tl hs))) (by first | exact hl | exact outL.set hl trivial | exact outL.set (outL.set hl trivial) trivial | exact outL.set hl (outL.hd hs) | exact outL.le hl (Nat.le_succ _) | exact outL.le hl gz_le) (by first | exact hs | exact outL.tl hs | exact outL.tl (outL.tl hs) | exact outL.tl (outL.tl (outL.tl hs)) | exact outL.tl (outL.tl (outL.tl (outL.tl (outL.tl hs)))) | exact outL.cons trivial hs | exact outL.cons trivial (outL.tl hs) | exact outL.cons trivial (outL.tl (outL.tl hs)) | exact outL.cons trivial (outL.cons trivial (outL.tl hs)) | exact outL.cons (outL.hd hs) hs | exact outL.cons trivial (outL.cons (outL.hd (outL.tl hs)) hs) | exact outL.cons (outL.get hl (by assumption)) hs | exact outL.cons (out_r hc (outL.hd hs)) (outL.tl hs) | exact outL.cons (out_r hc (outL.hd (outL.tl hs))) (outL.tl (outL.tl hs)) | exact outL.cons (outL.hd hs) (outL.tl hs) | exact outL.cons (out_n hc (Nat.lt_succ_self _)) (outL.le hs (Nat.le_succ _)) | exact outL.cons (out_n hc (Nat.lt_succ_self _)) (outL.le (outL.tl hs) (Nat.le_succ _)) | exact outL.cons (out_n hc gz_lt) (outL.le (outL.tl (outL.tl hs)) gz_le))
                   | exact fk_eq (gr_ite h) (FK.setI hc (outL.hd (outL.tl hs))) (by first | exact hl | exact outL.set hl trivial | exact outL.set (outL.set hl trivial) trivial | exact outL.set hl (outL.hd hs) | exact outL.le hl (Nat.le_succ _) | exact outL.le hl gz_le) (by first | exact hs | exact outL.tl hs | exact outL.tl (outL.tl hs) | exact outL.tl (outL.tl (outL.tl hs)) | exact outL.tl (outL.tl (outL.tl (outL.tl (outL.tl hs)))) | exact outL.cons trivial hs | exact outL.cons trivial (outL.tl hs) | exact outL.cons trivial (outL.tl (outL.tl hs)) | exact outL.cons trivial (outL.cons trivial (outL.tl hs)) | exact outL.cons (outL.hd hs) hs | exact outL.cons trivial (outL.cons (outL.hd (outL.tl hs)) hs) | exact outL.cons (outL.get hl (by assumption)) hs | exact outL.cons (out_r hc (outL.hd hs)) (outL.tl hs) | exact outL.cons (out_r hc (outL.hd (outL.tl hs))) (outL.tl (outL.tl hs)) | exact outL.cons (outL.hd hs) (outL.tl hs) | exact outL.cons (out_n hc (Nat.lt_succ_self _)) (outL.le hs (Nat.le_succ _)) | exact outL.cons (out_n hc (Nat.lt_succ_self _)) (outL.le (outL.tl hs) (Nat.le_succ _)) | exact outL.cons (out_n hc gz_lt) (outL.le (outL.tl (outL.tl hs)) gz_le))
                   | (replace h := gr_ite h
                      repeat' split at h
                      all_goals first
                        | (cases h; done)
                        | exact fk_eq h (FK.setI hc (outL.hd (outL.tl hs))) (by first | exact hl | exact outL.set hl trivial | exact outL.set (outL.set hl trivial) trivial | exact outL.set hl (outL.hd hs) | exact outL.le hl (Nat.le_succ _) | exact outL.le hl gz_le) (by first | exact hs | exact outL.tl hs | exact outL.tl (outL.tl hs) | exact outL.tl (outL.tl (outL.tl hs)) | exact outL.tl (outL.tl (outL.tl (outL.tl (outL.tl hs)))) | exact outL.cons trivial hs | exact outL.cons trivial (outL.tl hs) | exact outL.cons trivial (outL.tl (outL.tl hs)) | exact outL.cons trivial (outL.cons trivial (outL.tl hs)) | exact outL.cons (outL.hd hs) hs | exact outL.cons trivial (outL.cons (outL.hd (outL.tl hs)) hs) | exact outL.cons (outL.get hl (by assumption)) hs | exact outL.cons (out_r hc (outL.hd hs)) (outL.tl hs) | exact outL.cons (out_r hc (outL.hd (outL.tl hs))) (outL.tl (outL.tl hs)) | exact outL.cons (outL.hd hs) (outL.tl hs) | exact outL.cons (out_n hc (Nat.lt_succ_self _)) (outL.le hs (Nat.le_succ _)) | exact outL.cons (out_n hc (Nat.lt_succ_self _)) (outL.le (outL.tl hs) (Nat.le_succ _)) | exact outL.cons (out_n hc gz_lt) (outL.le (outL.tl (outL.tl hs)) gz_le))
                        | exact fk_eq (gr_ite h) (FK.setI hc (outL.hd (outL.tl hs))) (by first | exact hl | exact outL.set hl trivial | exact outL.set (outL.set hl trivial) trivial | exact outL.set hl (outL.hd hs) | exact outL.le hl (Nat.le_succ _) | exact outL.le hl gz_le) (by first | exact hs | exact outL.tl hs | exact outL.tl (outL.tl hs) | exact outL.tl (outL.tl (outL.tl hs)) | exact outL.tl (outL.tl (outL.tl (outL.tl (outL.tl hs)))) | exact outL.cons trivial hs | exact outL.cons trivial (outL.tl hs) | exact outL.cons trivial (outL.tl (outL.tl hs)) | exact outL.cons trivial (outL.cons trivial (outL.tl hs)) | exact outL.cons (outL.hd hs) hs | exact outL.cons trivial (outL.cons (outL.hd (outL.tl hs)) hs) | exact outL.cons (outL.get hl (by assumption)) hs | exact outL.cons (out_r hc (outL.hd hs)) (outL.tl hs) | exact outL.cons (out_r hc (outL.hd (outL.tl hs))) (outL.tl (outL.tl hs)) | exact outL.cons (outL.hd hs) (outL.tl hs) | exact outL.cons (out_n hc (Nat.lt_succ_self _)) (outL.le hs (Nat.le_succ _)) | exact outL.cons (out_n hc (Nat.lt_succ_self _)) (outL.le (outL.tl hs) (Nat.le_succ _)) | exact outL.cons (out_n hc gz_lt) (outL.le (outL.tl (outL.tl hs)) gz_le))))))
theorem sTab_lt : ∀ t ∈ sTab, t.2.2 < 159 := by
  have : sTab.all (fun t => Nat.blt t.2.2 159) = true := by decide +kernel
  exact fun t ht => Nat.blt_eq.mp (List.all_eq_true.mp this t ht)
theorem and_p {a b : Bool} (h : (a && b) = true) : a = true ∧ b = true := by
  cases a <;> cases b <;> first | exact ⟨rfl, rfl⟩ | cases h
theorem cst_ok {y pc : Nat} {e : PE} (h : prog y pc = some e) : cstE e := by
  obtain ⟨n, -, -, hr⟩ := ok_dec h
  obtain ⟨i, a, b, z, l⟩ := e
  cases i
  case ldc i =>
    intro h0
    cases a with
    | zero => exact absurd rfl h0
    | succ k => exact sTab_lt _ (List.contains_iff_mem.mp hr)
  case ldc_w i =>
    intro h0
    cases a with
    | zero => exact absurd rfl h0
    | succ k => exact sTab_lt _ (List.contains_iff_mem.mp hr)
  case getstatic i =>
    intro h0
    show b < 159
    cases a with
    | zero => exact absurd rfl h0
    | succ a => cases a with
      | zero =>
        have q : b = 142 := Nat.eq_of_beq_eq_true (and_p hr).2
        omega
      | succ a =>
        have q : b = 143 := Nat.eq_of_beq_eq_true (and_p hr).2
        omega
  all_goals trivial
theorem exec_fk {A : Nat → Prop} : ∀ (n d y pc : Nat) (ls st : List PV) (M : PM) (v : Option PV) (M2 : PM), clo A M → outL A (pSz M) ls → outL A (pSz M) st → exec GG n d y pc ls st M = some (v, M2) → FK A M M2 ∧ outL A (pSz M2) v.toList := by
  intro n
  induction n with
  | zero => intro d y pc ls st M v M2 _ _ _ h; cases h
  | succ n ih =>
    intro d y pc ls st M v M2 hk hl hs h
    unfold exec at h
    cases hc : GG.1 y pc with
    | none => rw [hc] at h; cases h
    | some e =>
      rw [hc] at h
      dsimp only at h
      cases ho : opF GG.2.2.2.2 GG.2.2.2.1 d (GG.2.1 y) e pc ls st M with
      | none => rw [ho] at h; cases h
      | some o =>
        have hg := op_fk hk hl hs (cst_ok hc) ho
        rw [ho] at h
        try dsimp only at h
        obtain ⟨pc', ls', st', M'⟩ | r' | ⟨y', as, M', pc', ls', st'⟩ := o
        · obtain ⟨g1, g2, g3⟩ := hg
          have := ih _ _ _ _ _ _ _ _ g1.2.1 g2 g3 h
          exact ⟨FK.tr hk g1 this.1, this.2⟩
        · cases h
          exact hg
        · obtain ⟨g1, g2, g3, g4⟩ := hg
          cases d with
          | zero => cases h
          | succ d' =>
            dsimp only at h
            cases hr : exec GG n d' y' 0 (locE GG y' as) [] M' with
            | none => rw [hr] at h; cases h
            | some q =>
              rw [hr] at h
              obtain ⟨w, M1⟩ := q
              have h1 := ih _ _ _ _ _ _ _ _ g1.2.1 (g2.app outL.rep) outL.nil hr
              have h2 := ih _ _ _ _ _ _ _ _ h1.1.2.1 (g3.le h1.1.1) (h1.2.app (g4.le h1.1.1)) h
              exact ⟨FK.tr hk g1 (FK.tr g1.2.1 h1.1 h2.1), h2.2⟩
theorem Mt.fk {A : Nat → Prop} {d y : Nat} {as : List PV} {M : PM} {Q : Option PV → PM → Prop} (hc : clo A M) (ha : outL A (pSz M) as) (h : Mt GG d y as M Q) : Mt GG d y as M (fun v M' => Q v M' ∧ FK A M M' ∧ outL A (pSz M') v.toList) := by
  obtain ⟨n, v, M', h1, h2⟩ := h
  exact ⟨n, v, M', h1, h2, exec_fk _ _ _ _ _ _ _ _ _ hc (ha.app outL.rep) outL.nil h1⟩
theorem CI.fk {A : Nat → Prop} {d y : Nat} {as : List PV} {I : IM} {D : DY} {K : Int32 → IM → Prop} (hc : clo A (mm I D)) (ha : outL A (dZ D) as) (h : CI d y as (mm I D) K) : CI d y as (mm I D) (fun x I2 => K x I2 ∧ FK A (mm I D) (mm I2 D)) :=
  Mt.mono (Mt.fk hc ha h) fun v M' ⟨⟨x, I2, e1, e2, hk⟩, hf, _⟩ => ⟨x, I2, e1, e2, hk, by subst e2; exact hf⟩
theorem AI.fk {A : Nat → Prop} {d y : Nat} {as : List PV} {I : IM} {D : DY} {K : Int32 → IM → DY → Prop} (hc : clo A (mm I D)) (ha : outL A (dZ D) as) (h : AI d y as (mm I D) K) : AI d y as (mm I D) (fun x I2 D2 => K x I2 D2 ∧ FK A (mm I D) (mm I2 D2)) :=
  Mt.mono (Mt.fk hc ha h) fun v M' ⟨⟨x, I2, D2, e1, e2, hk⟩, hf, _⟩ => ⟨x, I2, D2, e1, e2, hk, by subst e2; exact hf⟩
theorem AV.fk {A : Nat → Prop} {d y : Nat} {as : List PV} {I : IM} {D : DY} {K : IM → DY → Prop} (hc : clo A (mm I D)) (ha : outL A (dZ D) as) (h : AV d y as (mm I D) K) : AV d y as (mm I D) (fun I2 D2 => K I2 D2 ∧ FK A (mm I D) (mm I2 D2)) :=
  Mt.mono (Mt.fk hc ha h) fun v M' ⟨⟨I2, D2, e1, e2, hk⟩, hf, _⟩ => ⟨I2, D2, e1, e2, hk, by subst e2; exact hf⟩
theorem AR.fk {A : Nat → Prop} {d y : Nat} {as : List PV} {I : IM} {D : DY} {K : Option Nat → IM → DY → Prop} (hc : clo A (mm I D)) (ha : outL A (dZ D) as) (h : AR d y as (mm I D) K) : AR d y as (mm I D) (fun x I2 D2 => K x I2 D2 ∧ FK A (mm I D) (mm I2 D2) ∧ outL A (dZ D2) [vR x]) :=
  Mt.mono (Mt.fk hc ha h) fun v M' ⟨⟨x, I2, D2, e1, e2, hk⟩, hf, ho⟩ => ⟨x, I2, D2, e1, e2, hk, by subst e2; exact hf, by subst e1; subst e2; exact ho⟩
/-- a new cell, and what is kept with it -/
theorem clo.mk {A : Nat → Prop} {M : PM} {c n : Nat} (h : clo A M) : clo (fun a => A a ∨ a = pSz M) (mkN M c n) := by
  have h2 := (FK.mk (c := c) (n := n) h).2.1
  refine ⟨h2.1, fun a ha => ?_, fun a k b ha hb => ⟨(h2.2.2 a k b ha hb).1, fun hn q => ?_⟩⟩
  · rcases ha with ha | rfl
    · exact h2.2.1 a ha
    · exact ⟨h.1, Nat.lt_succ_self _⟩
  · rcases q with q | rfl
    · exact (h2.2.2 a k b ha hb).2 (fun z => hn (Or.inl z)) q
    · have hne : a ≠ pSz M := fun z => hn (Or.inr z)
      have hb' : upr (pR M) (pSz M) none a k = some (pSz M) := hb
      unfold upr at hb'
      rw [if_neg hne] at hb'
      exact absurd (h.2.2 a k _ (Nat.lt_of_le_of_ne (Nat.le_of_lt_succ ha) hne) hb').1 (Nat.lt_irrefl _)
theorem clo.sub {A B : Nat → Prop} {M : PM} (h : clo A M) (hs : ∀ a, B a → A a) (hb : ∀ a, A a → ¬ B a → ∀ k b, pR M a k = some b → ¬ B b) : clo B M :=
  ⟨h.1, fun a ha => h.2.1 a (hs a ha), fun a k b ha hr => ⟨(h.2.2 a k b ha hr).1, fun hn q => by
    by_cases hA : A a
    · exact hb a hA hn k b hr q
    · exact (h.2.2 a k b ha hr).2 hA (hs b q)⟩⟩
