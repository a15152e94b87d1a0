/-! The model's formulas: codes in slots. -/
theorem up2_if {α : Type} {f : Nat → Nat → α} {a j b k : Nat} {v : α} : up2 f a j v b k = if b = a ∧ k = j then v else f b k := rfl
def FMc (I : IM) (sl : Nat) (e : Tx) : Prop := I 110 sl = z32 (e.length : Int) ∧ e.length ≤ 245 ∧ ∀ k, k < e.length → I 109 (245 * sl + k) = e.getD k 0
def MZ (I : IM) (T : Tx) (r : PS) (sl : Nat) (e : Tx) (P : Nat) : Prop := MP I T r ∧ (I 106 9 = z32 (sl : Int) ∧ sl < 160 ∧ P ≤ 489) ∧ (∃ a n : Nat, a ≤ 160 ∧ I 106 3 = z32 (a : Int) ∧ I 110 sl = z32 (n : Int) ∧ 2 * n + 3 * (160 - a) ≤ P) ∧ ∀ s, r = .inl s → FMc I sl e
/-- what the reading of a formula may change -/
def GFr (sl : Nat) (I I2 : IM) : Prop := ∀ q k, ¬ ((q = 106 ∧ (3 ≤ k ∧ k ≤ 5 ∨ k = 10)) ∨ (q = 109 ∧ 245 * sl ≤ k ∧ k < 245 * sl + 245) ∨ (q = 110 ∧ k = sl)) → I2 q k = I q k
theorem GFr.rf {sl : Nat} {I : IM} : GFr sl I I := fun _ _ _ => rfl
theorem GFr.tr {sl : Nat} {I I2 I3 : IM} (h : GFr sl I I2) (h2 : GFr sl I2 I3) : GFr sl I I3 := fun q k e => (h2 q k e).trans (h q k e)
theorem NFr.g {sl : Nat} {I I2 : IM} (h : NFr I I2) : GFr sl I I2 := fun q k e => h q k (by omega)
theorem GFr.up {sl : Nat} {I : IM} {k : Nat} {v : Int32} (hk : 3 ≤ k ∧ k ≤ 5 ∨ k = 10) : GFr sl I (up2 I 106 k v) := fun q j h => if_neg (fun e => h (Or.inl ⟨e.1, by omega⟩))
theorem TPm.gf {sl : Nat} {I I2 : IM} {T : Tx} (h : TPm I T) (hf : GFr sl I I2) (hb : ∃ n : Nat, n ≤ 245 ∧ I2 110 sl = z32 (n : Int)) : TPm I2 T := h.fb (hf _ _ (by omega)) (fun k => hf _ _ (by omega)) (fun s hs => by
  by_cases q : s = sl
  · rw [q]
    exact hb
  · obtain ⟨n, a, b⟩ := h.2.2.2.2 s hs
    exact ⟨n, a, (hf _ _ (by omega)).trans b⟩)
theorem MZ.in {I : IM} {T : Tx} {m sl P : Nat} {e e2 : Tx} (h : MZ I T (.inr m) sl e P) : MZ I T (.inr m) sl e2 P := ⟨h.1, h.2.1, h.2.2.1, fun s hs => by cases hs⟩
theorem MZ.le {I : IM} {T : Tx} {r : PS} {sl P P2 : Nat} {e : Tx} (h : MZ I T r sl e P) (hp : P ≤ P2) (h2 : P2 ≤ 489) : MZ I T r sl e P2 := by
  obtain ⟨h1, ⟨h3, h4, h5⟩, ⟨a, n, a1, a2, a3, a4⟩, h6⟩ := h
  exact ⟨h1, ⟨h3, h4, h2⟩, ⟨a, n, a1, a2, a3, by omega⟩, h6⟩
/-- behind words, signs, numbers -/
theorem MZ.nf {I I2 : IM} {T : Tx} {r r2 : PS} {sl P : Nat} {e : Tx} (h : MZ I T r sl e P) (hf : NFr I I2) (hM : MP I2 T r2) (hp : I 106 3 ≤ I2 106 3) (hr : ∀ s, r2 = .inl s → ∃ s0, r = .inl s0) : MZ I2 T r2 sl e P := by
  obtain ⟨h1, ⟨h3, h4, h5⟩, ⟨a, n, a1, a2, a3, a4⟩, h6⟩ := h
  obtain ⟨b, b1, b2⟩ := hM.2.1
  rw [a2, b2, z32_le (by omega) (by omega) (by omega) (by omega)] at hp
  refine ⟨hM, ⟨(hf _ _ (by omega)).trans h3, h4, h5⟩, ⟨b, n, b1, b2, (hf _ _ (by omega)).trans a3, by omega⟩, fun s hs => ?_⟩
  obtain ⟨s0, e0⟩ := hr s hs
  obtain ⟨f1, f2, f3⟩ := h6 s0 e0
  exact ⟨(hf _ _ (by omega)).trans f1, f2, fun k hk => (hf _ _ (by omega)).trans (f3 k hk)⟩
theorem MZ.next {I : IM} {T t : Tx} {x : Int32} {sl P : Nat} {e : Tx} (h : MZ I T (.inl (x :: t)) sl e P) : MZ (up2 I 106 3 (I 106 3 + 1)) T (.inl t) sl e (P - 3) ∧ 3 ≤ P := by
  obtain ⟨h1, ⟨h3, h4, h5⟩, ⟨a, n, a1, a2, a3, a4⟩, h6⟩ := h
  obtain ⟨g1, g2, g3⟩ := h1.in
  have hl := g1.1
  have h160 := h1.1.2.1
  rw [List.length_cons] at hl g2
  obtain ⟨n1, n2⟩ := h1.next
  have ea : a = T.length - (t.length + 1) := by
    rw [a2, z32_inj (by omega) (by omega) (by omega) (by omega)] at g2
    omega
  have hf : NFr I (up2 I 106 3 (I 106 3 + 1)) := NFr.up (by omega)
  obtain ⟨f1, f2, f3⟩ := h6 _ rfl
  exact ⟨⟨n1, ⟨(hf _ _ (by omega)).trans h3, h4, by omega⟩, ⟨a + 1, n, by omega, by rw [up2_eq, n2]; congr 2; omega, (hf _ _ (by omega)).trans a3, by omega⟩, fun s hs => ⟨(hf _ _ (by omega)).trans f1, f2, fun k hk => (hf _ _ (by omega)).trans (f3 k hk)⟩⟩, by omega⟩
theorem MP.gf {sl : Nat} {I I2 : IM} {T : Tx} {r : PS} (h : MP I T r) (hf : GFr sl I I2) (hb : ∃ n : Nat, n ≤ 245 ∧ I2 110 sl = z32 (n : Int)) (h3 : I2 106 3 = I 106 3) (h4 : I2 106 4 = I 106 4) : MP I2 T r := by
  obtain ⟨h1, ⟨a, a1, a2⟩, h2⟩ := h
  refine ⟨h1.gf hf hb, ⟨a, a1, h3.trans a2⟩, ?_⟩
  rcases r with s | m
  · have h2 : sfx s T ∧ I 106 3 = z32 ((T.length - s.length : Nat) : Int) ∧ I 106 4 = -1 := h2
    exact ⟨h2.1, h3.trans h2.2.1, h4.trans h2.2.2⟩
  · have h2 : m ≤ T.length ∧ I 106 4 = z32 ((T.length - m : Nat) : Int) := h2
    exact ⟨h2.1, h4.trans h2.2⟩
theorem m_puts {d : Nat} {I : IM} {D : DY} {K : IM → Prop} {T : Tx} {r : PS} {sl P : Nat} {e : Tx} {x : Int32} (h : MZ I T r sl e P) (hP : P ≤ 487) (k : ∀ I2, GFr sl I I2 → MZ I2 T r sl (e ++ [x]) (P + 2) → (∀ j, I2 106 j = I 106 j) → K I2) : CV d 184 [vR (some 106), vI x] (mm I D) K := by
  obtain ⟨h1, ⟨h3, h4, h5⟩, ⟨a, n, a1, a2, a3, a4⟩, h6⟩ := h
  have e1 : 245 * I 106 9 + I 110 (ixN (I 106 9)) = z32 ((245 * sl + n : Nat) : Int) := by
    rw [h3, ix_n (by omega), a3]
    show z32 245 * _ + _ = _
    rw [z32_mul, z32_add]
    congr 1
  refine s_M_put _ (tsP_i (h3 ▸ inB_n h4 (by omega)) (tsP_i (e1 ▸ inB_n (by omega) (by omega)) (tsP_i (h3 ▸ inB_n h4 (by omega)) (tsP_i (h3 ▸ inB_n h4 (by omega)) (qV_i (k _ ?_ ?_ ?_))))))
  · rw [e1, h3, ix_n (by omega), ix_n (n := sl) (by omega)]
    intro q j hq
    rw [up2_if, if_neg (by omega), up2_if, if_neg (by omega)]
  · rw [e1, h3, ix_n (by omega), ix_n (n := sl) (by omega), a3, z32_s]
    have hf : GFr sl I (up2 (up2 I 109 (245 * sl + n) x) 110 sl (z32 ((n + 1 : Nat) : Int))) := fun q j hq => by
      rw [up2_if, if_neg (by omega), up2_if, if_neg (by omega)]
    have h6' : ∀ j, up2 (up2 I 109 (245 * sl + n) x) 110 sl (z32 ((n + 1 : Nat) : Int)) 106 j = I 106 j := fun j => by rw [up2_ne (by omega), up2_ne (by omega)]
    refine ⟨h1.gf hf ⟨n + 1, by omega, up2_eq⟩ (h6' _) (h6' _), ⟨(h6' _).trans h3, h4, by omega⟩, ⟨a, n + 1, a1, (h6' _).trans a2, up2_eq, by omega⟩, fun s hs => ?_⟩
    obtain ⟨f1, f2, f3⟩ := h6 s hs
    rw [a3, z32_inj (by omega) (by omega) (by omega) (by omega)] at f1
    have f1 : n = e.length := by omega
    subst f1
    have hl : (e ++ [x]).length = e.length + 1 := by rw [List.length_append]; rfl
    refine ⟨by rw [up2_eq, hl], by omega, fun k hk => ?_⟩
    rw [hl] at hk
    rw [up2_ne (by omega)]
    by_cases q : k = e.length
    · subst q
      rw [up2_eq, List.getD_eq_getElem?_getD, List.getElem?_append_right (Nat.le_refl _), Nat.sub_self]
      rfl
    · rw [up2_nj (by omega), f3 k (by omega), List.getD_eq_getElem?_getD, List.getD_eq_getElem?_getD, List.getElem?_append_left (by omega)]
  · intro j
    rw [up2_ne (by omega), up2_ne (by omega)]
def LTm (I : IM) (vs : Tx) : Prop := (I 106 11 = 0 ∧ vs = absV) ∨ (I 106 11 = 1 ∧ vs = okhV)
theorem e_var {d : Nat} {I : IM} {D : DY} {K : Int32 → IM → Prop} {vs : Tx} (h : LTm I vs) (x : Int32) : CI d 185 [vR (some 106), vI x] (mm I D) K ↔ K (ixV (ixS vs x)) I := by
  refine CI_iff (s_M_variable _ ?_)
  rcases h with ⟨h1, rfl⟩ | ⟨h1, rfl⟩
  · refine (brP_t h1).mpr (brP_i (fun c1 => brP_i (fun c2 => brP_i (fun c3 => qI_i ⟨?_, rfl⟩) (fun c => ?_)) (fun c => ?_)) (fun c => ?_))
    · have d1 : ¬ 97 = x := fun e => c1 e.symm
      have d2 : ¬ 98 = x := fun e => c2 e.symm
      have d3 : ¬ 115 = x := fun e => c3 e.symm
      simp [ixS, absV, List.findIdx?_cons, d1, d2, d3, ixV]
    all_goals
      obtain rfl := Classical.not_not.mp c
      exact qI_i ⟨by decide, rfl⟩
  · refine (brP_f (by rw [h1]; decide)).mpr (brP_i (fun c1 => brP_i (fun c2 => brP_i (fun c3 => brP_i (fun c4 => brP_i (fun c5 => qI_i ⟨?_, rfl⟩) (fun c => ?_)) (fun c => ?_)) (fun c => ?_)) (fun c => ?_)) (fun c => ?_))
    · have d1 : ¬ 111 = x := fun e => c1 e.symm
      have d2 : ¬ 107 = x := fun e => c2 e.symm
      have d3 : ¬ 104 = x := fun e => c3 e.symm
      have d4 : ¬ 112 = x := fun e => c4 e.symm
      have d5 : ¬ 118 = x := fun e => c5 e.symm
      simp [ixS, okhV, List.findIdx?_cons, d1, d2, d3, d4, d5, ixV]
    all_goals
      obtain rfl := Classical.not_not.mp c
      exact qI_i ⟨by decide, rfl⟩
theorem LTm.gf {sl : Nat} {I I2 : IM} {vs : Tx} (h : LTm I vs) (hf : GFr sl I I2) : LTm I2 vs := by
  unfold LTm
  rw [hf 106 11 (by omega)]
  exact h
theorem LTm.low {I : IM} {vs : Tx} (h : LTm I vs) : ∀ x ∈ vs, lowB x = true := by
  rcases h with ⟨-, rfl⟩ | ⟨-, rfl⟩ <;> decide
theorem LTm.n5 {I : IM} {vs : Tx} (h : LTm I vs) : vs.length ≤ 5 := by
  rcases h with ⟨-, rfl⟩ | ⟨-, rfl⟩ <;> decide
def apE (e : Tx) (q : PR Tx) : Tx := match q with
  | .inl (c, _) => e ++ encV c
  | .inr _ => []
theorem encV_app (a b : Tx) : encV (a ++ b) = encV a ++ encV b := List.flatMap_append
theorem encV_1 (x : Int32) : encV [x] = encE x := by
  show encE x ++ [] = _
  rw [List.append_nil]
theorem enc_sg {lv : Nat} {x : Int32} (h : sgB lv x = true) : encE (-x) = [x] := by
  have : x = 60 ∨ x = 61 ∨ x = 62 ∨ x = 43 ∨ x = 45 ∨ x = 42 ∨ x = 47 ∨ x = 37 := by
    match lv, h with
    | 0, h =>
      have h : (decide (x = 60) || decide (x = 61) || decide (x = 62)) = true := h
      simp only [Bool.or_eq_true, decide_eq_true_eq] at h
      rcases h with (h | h) | h <;> simp [h]
    | 1, h =>
      have h : (decide (x = 43) || decide (x = 45)) = true := h
      simp only [Bool.or_eq_true, decide_eq_true_eq] at h
      rcases h with h | h <;> simp [h]
    | n + 2, h =>
      have h : (decide (x = 42) || decide (x = 47) || decide (x = 37)) = true := h
      simp only [Bool.or_eq_true, decide_eq_true_eq] at h
      rcases h with (h | h) | h <;> simp [h]
  rcases this with rfl | rfl | rfl | rfl | rfl | rfl | rfl | rfl <;> decide
theorem enc_lit {v : Int} (h0 : 0 ≤ v) (h1 : v ≤ 9999) : encE (z32 v) = [1, z32 v] := by
  unfold encE
  rw [if_pos (by show z32 0 ≤ _; rw [z32_le] <;> omega), if_pos (by show _ < z32 10000; rw [z32_lt] <;> omega)]
theorem enc_var {q : Nat} (h : q < 5) : encE (z32 (10000 + (q : Int))) = [2, z32 (q : Int)] := by
  unfold encE
  rw [if_pos (by show z32 0 ≤ _; rw [z32_le] <;> omega), if_neg (by show ¬ _ < z32 10000; rw [z32_lt] <;> omega)]
  congr 2
  show _ - z32 10000 = _
  rw [z32_sub]
  congr 1
  omega
theorem nbP_ok {x : Int32} {t : Tx} (h : digB x = true) : ∃ v s2, nbP 9999 (x :: t) = .inl (v, s2) ∧ 0 ≤ v ∧ v ≤ 9999 := by
  have h1 : dgOf (x :: t) ≠ [] := by
    unfold dgOf
    rw [List.take_succ_cons, List.takeWhile_cons, if_pos h]
    exact List.cons_ne_nil _ _
  have h2 := dgV_b _ (dgOf (x :: t)) rfl (by unfold dgOf; exact List.all_takeWhile)
  have h3 : (dgOf (x :: t)).length ≤ 4 := Nat.le_trans (List.Sublist.length_le (List.takeWhile_sublist _)) (List.length_take_le _ _)
  have h4 : (10 : Int) ^ (dgOf (x :: t)).length ≤ 10000 := by
    rcases (by omega : (dgOf (x :: t)).length = 0 ∨ (dgOf (x :: t)).length = 1 ∨ (dgOf (x :: t)).length = 2 ∨ (dgOf (x :: t)).length = 3 ∨ (dgOf (x :: t)).length = 4) with q | q | q | q | q <;> rw [q] <;> decide
  refine ⟨_, _, if_neg (fun c => ?_), h2.1, by omega⟩
  rcases c with c | c
  · exact h1 c
  · omega
/-- what the model's readers of a C do; 179: compared, 180: sum, 181: product, 182: operand -/
def HM (vs : Tx) (n op lv : Nat) : Prop := ∀ (d : Nat) (I : IM) (D : DY) (K : IM → Prop) (T : Tx) (r : PS) (sl : Nat) (e : Tx) (P : Nat), 2 * n + 9 ≤ d → LTm I vs → (∀ s, r = .inl s → I 106 10 = z32 (op : Int)) → MZ I T r sl e P → P ≤ 484 →
  (∀ I2, GFr sl I I2 → MZ I2 T (aft (sq r (xP vs n op lv))) sl (apE e (sq r (xP vs n op lv))) (P + 1) → (∀ c s, sq r (xP vs n op lv) = .inl (c, s) → I2 106 10 = z32 (op : Int)) → K I2) → CV d (179 + lv) [vR (some 106)] (mm I D) K
/-- a sign, what follows it, and its putting -/
theorem op_body {d : Nat} {I : IM} {D : DY} {K : IM → Prop} {vs T t e : Tx} {x : Int32} {n op lv lw sl P : Nat} (hm : HM vs n op lv) (hd : 2 * n + 9 ≤ d) (hL : LTm I vs) (hop : I 106 10 = z32 (op : Int)) (hx : sgB lw x = true) (h : MZ I T (.inl (x :: t)) sl e P) (hP : P ≤ 487)
    (k : ∀ I2, GFr sl I I2 → MZ I2 T (aft (bnd (xP vs n op lv t) (fun c2 s2 => (.inl (c2 ++ [-x], s2) : PR Tx)))) sl (apE e (bnd (xP vs n op lv t) (fun c2 s2 => (.inl (c2 ++ [-x], s2) : PR Tx)))) P → (∀ c s, xP vs n op lv t = .inl (c, s) → I2 106 10 = z32 (op : Int)) → K I2) :
    CV d (179 + lv) [vR (some 106)] (mm (up2 I 106 3 (I 106 3 + 1)) D) (fun I3 => CV d 184 [vR (some 106), vI x] (mm I3 D) K) := by
  obtain ⟨hn, h3⟩ := h.next
  have hf : GFr sl I (up2 I 106 3 (I 106 3 + 1)) := GFr.up (by omega)
  refine hm _ _ _ _ T (.inl t) sl e (P - 3) hd (hL.gf hf) (fun s hs => (up2_nj (by omega)).trans hop) hn (by omega) (fun I2 f2 X2 o2 => ?_)
  rw [sq_inl] at X2 o2
  refine m_puts X2 (by omega) (fun I3 f3 X3 o3 => ?_)
  have k := k I3 (hf.tr (f2.tr f3))
  cases hc : xP vs n op lv t with
  | inr m =>
    rw [hc] at X3 k
    exact k (X3.in.le (by omega) (by omega)) (fun c s q => by cases q)
  | inl cs =>
    obtain ⟨c, s⟩ := cs
    rw [hc] at X3 k
    refine k ?_ (fun c1 s1 q => (o3 10).trans (o2 c s hc))
    have e1 : apE e (.inl (c ++ [-x], s)) = e ++ encV c ++ [x] := by
      show e ++ encV (c ++ [-x]) = _
      rw [encV_app, encV_1, enc_sg hx, List.append_assoc]
    show MZ I3 T (.inl s) sl (apE e (.inl (c ++ [-x], s))) P
    rw [e1]
    exact X3.le (by omega) (by omega)
theorem sum_step {d : Nat} {I : IM} {D : DY} {Q : Option PV → PM → Prop} {T s : Tx} {w : PV} (h : MP I T (.inl s))
    (k1 : ∀ x t, s = x :: t → sgB 1 x = true → CV d 181 [vR (some 106)] (mm (up2 I 106 3 (I 106 3 + 1)) D) (fun I3 => CV d 184 [vR (some 106), vI x] (mm I3 D) (fun I4 => Wp GG (d + 1) 180 4 [vR (some 106), vI x] [] (mm I4 D) Q)))
    (k2 : (∀ x t, s = x :: t → sgB 1 x = false) → Q none (mm I D)) : Wp GG (d + 1) 180 4 [vR (some 106), w] [] (mm I D) Q := by
  refine s_M_readSum_4 _ ((brP_f (by rw [h.in.2.2]; decide)).mpr ?_)
  rw [e_here h]
  cases s with
  | nil =>
    refine (brP_f (by decide)).mpr ?_
    rw [e_here h]
    exact (brP_t (by decide)).mpr (k2 (fun x t e => by cases e))
  | cons x t =>
    refine brP_i (fun c => ?_) (fun c1 => ?_)
    · rw [e_here h]
      exact k1 x t rfl (by rw [show x = 43 from c]; rfl)
    · rw [e_here h]
      refine brP_i (fun c2 => k2 (fun y u e => ?_)) (fun c => ?_)
      · cases e
        show (decide (x = 43) || decide (x = 45)) = false
        rw [decide_eq_false (show ¬ x = 43 from c1), decide_eq_false (show ¬ x = 45 from c2)]
        rfl
      · rw [e_here h]
        exact k1 x t rfl (by rw [show x = 45 from Classical.not_not.mp c]; rfl)
theorem prod_step {d : Nat} {I : IM} {D : DY} {Q : Option PV → PM → Prop} {T s : Tx} {w : PV} (h : MP I T (.inl s))
    (k1 : ∀ x t, s = x :: t → sgB 2 x = true → CV d 182 [vR (some 106)] (mm (up2 I 106 3 (I 106 3 + 1)) D) (fun I3 => CV d 184 [vR (some 106), vI x] (mm I3 D) (fun I4 => Wp GG (d + 1) 181 4 [vR (some 106), vI x] [] (mm I4 D) Q)))
    (k2 : (∀ x t, s = x :: t → sgB 2 x = false) → Q none (mm I D)) : Wp GG (d + 1) 181 4 [vR (some 106), w] [] (mm I D) Q := by
  refine s_M_readProduct_4 _ ((brP_f (by rw [h.in.2.2]; decide)).mpr ?_)
  rw [e_here h]
  cases s with
  | nil =>
    refine (brP_f (by decide)).mpr ?_
    rw [e_here h]
    refine (brP_f (by decide)).mpr ?_
    rw [e_here h]
    exact (brP_t (by decide)).mpr (k2 (fun x t e => by cases e))
  | cons x t =>
    refine brP_i (fun c => ?_) (fun c1 => ?_)
    · rw [e_here h]
      exact k1 x t rfl (by rw [show x = 42 from c]; rfl)
    · rw [e_here h]
      refine brP_i (fun c => ?_) (fun c2 => ?_)
      · rw [e_here h]
        exact k1 x t rfl (by rw [show x = 47 from c]; rfl)
      · rw [e_here h]
        refine brP_i (fun c3 => k2 (fun y u e => ?_)) (fun c => ?_)
        · cases e
          show (decide (x = 42) || decide (x = 47) || decide (x = 37)) = false
          rw [decide_eq_false (show ¬ x = 42 from c1), decide_eq_false (show ¬ x = 47 from c2), decide_eq_false (show ¬ x = 37 from c3)]
          rfl
        · rw [e_here h]
          exact k1 x t rfl (by rw [show x = 37 from Classical.not_not.mp c]; rfl)
/-- a level that loops: what makes its loop's step and its end -/
theorem lv_loop {vs T e : Tx} {n op lv sl P d : Nat} {D : DY} (hlv : lv = 1 ∨ lv = 2) (hm : HM vs n op (lv + 1)) (hd : 2 * n + 9 ≤ d) {I0 : IM} {K : IM → Prop} (hL : LTm I0 vs) (hP : P ≤ 487) :
    ∀ (g : Nat) (I : IM) (q1 : PR Tx) (w : PV), GFr sl I0 I → MZ I T (aft q1) sl (apE e q1) P → (∀ c s, q1 = .inl (c, s) → I 106 10 = z32 (op : Int) ∧ s.length ≤ g) →
    (∀ I2, GFr sl I0 I2 → MZ I2 T (aft (lpQ (xP vs n op (lv + 1)) lv g q1)) sl (apE e (lpQ (xP vs n op (lv + 1)) lv g q1)) P → (∀ c s, lpQ (xP vs n op (lv + 1)) lv g q1 = .inl (c, s) → I2 106 10 = z32 (op : Int)) → K I2) →
    Wp GG (d + 1) (179 + lv) 4 [vR (some 106), w] [] (mm I D) (qV (mm I0 D) K) := by
  have hq0 : ∀ {I2 : IM}, K I2 → qV (mm I0 D) K none (mm I2 D) := fun h => ⟨_, rfl, rfl, h⟩
  intro g
  induction g with
  | zero =>
    intro I q1 w f X o k
    rcases q1 with ⟨c1, s1⟩ | m
    · obtain ⟨o1, o2⟩ := o c1 s1 rfl
      obtain rfl : s1 = [] := List.eq_nil_of_length_eq_zero (by omega)
      have h := X.1
      rcases hlv with rfl | rfl
      · exact sum_step h (fun x t e => by cases e) (fun _ => hq0 (k I f X (fun c s q => by cases q; exact o1)))
      · exact prod_step h (fun x t e => by cases e) (fun _ => hq0 (k I f X (fun c s q => by cases q; exact o1)))
    · have hfl : ¬ I 106 4 < 0 := fun c => by
        obtain ⟨s, e⟩ := X.1.fl.mp c
        cases e
      have kk := hq0 (k I f X (fun c s q => by cases q))
      rcases hlv with rfl | rfl
      · exact s_M_readSum_4 _ ((brP_t (Int32.not_lt.mp hfl)).mpr kk)
      · exact s_M_readProduct_4 _ ((brP_t (Int32.not_lt.mp hfl)).mpr kk)
  | succ g ih =>
    intro I q1 w f X o k
    rcases q1 with ⟨c1, s1⟩ | m
    · obtain ⟨o1, o2⟩ := o c1 s1 rfl
      have h : MP I T (.inl s1) := X.1
      have stop : (∀ x t, s1 = x :: t → sgB lv x = false) → qV (mm I0 D) K none (mm I D) := fun hs => by
        have e1 : lpQ (xP vs n op (lv + 1)) lv (g + 1) (.inl (c1, s1)) = .inl (c1, s1) := by
          cases s1 with
          | nil => rfl
          | cons x t =>
            show (if sgB lv x = true then _ else _) = _
            rw [hs x t rfl]
            rfl
        rw [e1] at k
        exact hq0 (k I f X (fun c s q => by cases q; exact o1))
      have go : ∀ x t, s1 = x :: t → sgB lv x = true → CV d (179 + (lv + 1)) [vR (some 106)] (mm (up2 I 106 3 (I 106 3 + 1)) D) (fun I3 => CV d 184 [vR (some 106), vI x] (mm I3 D) (fun I4 => Wp GG (d + 1) (179 + lv) 4 [vR (some 106), vI x] [] (mm I4 D) (qV (mm I0 D) K))) := fun x t es hx => by
        subst es
        refine op_body hm hd (hL.gf f) o1 hx X hP (fun I2 f2 X2 o3 => ?_)
        have e1 : lpQ (xP vs n op (lv + 1)) lv (g + 1) (.inl (c1, x :: t)) = lpQ (xP vs n op (lv + 1)) lv g (bnd (xP vs n op (lv + 1) t) (fun c2 s2 => (.inl (c1 ++ (c2 ++ [-x]), s2) : PR Tx))) := by
          show (if sgB lv x = true then _ else _) = _
          rw [if_pos hx]
          cases xP vs n op (lv + 1) t <;> rfl
        rw [e1] at k
        refine ih I2 _ _ (f.tr f2) ?_ ?_ k
        · cases hc : xP vs n op (lv + 1) t with
          | inr m =>
            rw [hc] at X2
            exact X2
          | inl cs =>
            obtain ⟨c2, s2⟩ := cs
            rw [hc] at X2
            have e2 : apE e (.inl (c1 ++ (c2 ++ [-x]), s2)) = apE (apE e (.inl (c1, x :: t))) (.inl (c2 ++ [-x], s2)) := by
              show e ++ encV (c1 ++ (c2 ++ [-x])) = e ++ encV c1 ++ encV (c2 ++ [-x])
              rw [encV_app c1, List.append_assoc]
            show MZ I2 T (.inl s2) sl (apE e (.inl (c1 ++ (c2 ++ [-x]), s2))) P
            rw [e2]
            exact X2
        · intro c s q
          cases hc : xP vs n op (lv + 1) t with
          | inr m => rw [hc] at q; cases q
          | inl cs =>
            obtain ⟨c2, s2⟩ := cs
            rw [hc] at q
            cases q
            have := (xP_len vs n op (lv + 1) t c2 s hc).2
            rw [List.length_cons] at o2
            exact ⟨o3 _ _ hc, by omega⟩
      rcases hlv with rfl | rfl
      · exact sum_step h go stop
      · exact prod_step h go stop
    · have hfl : ¬ I 106 4 < 0 := fun c => by
        obtain ⟨s, e⟩ := X.1.fl.mp c
        cases e
      have kk := hq0 (k I f X (fun c s q => by cases q))
      rcases hlv with rfl | rfl
      · exact s_M_readSum_4 _ ((brP_t (Int32.not_lt.mp hfl)).mpr kk)
      · exact s_M_readProduct_4 _ ((brP_t (Int32.not_lt.mp hfl)).mpr kk)
theorem xP_step (vs : Tx) (n op lv : Nat) (h : lv < 3) (r : PS) : sq r (xP vs (n + 1) op lv) = lpQ (xP vs n op (lv + 1)) lv (if lv = 0 then 1 else 160) (sq r (xP vs n op (lv + 1))) := by
  cases r with
  | inr m => rfl
  | inl s =>
    show (if 3 ≤ lv then _ else _) = _
    rw [if_neg (by omega)]
    show _ = lpQ _ _ _ (xP vs n op (lv + 1) s)
    cases xP vs n op (lv + 1) s <;> rfl
theorem hm_12 {vs : Tx} {n op lv : Nat} (hlv : lv = 1 ∨ lv = 2) (hm : HM vs n op (lv + 1)) : HM vs (n + 1) op lv := by
  intro d I D K T r sl e P hd hL ho hX hP k
  obtain ⟨d, rfl⟩ : ∃ d', d = d' + 1 := ⟨d - 1, by omega⟩
  rw [xP_step vs n op lv (by omega), if_neg (by omega)] at k
  have first : CV d (179 + (lv + 1)) [vR (some 106)] (mm I D) (fun I1 => Wp GG (d + 1) (179 + lv) 4 [vR (some 106), vT] [] (mm I1 D) (qV (mm I D) K)) := by
    refine hm _ _ _ _ T r sl e P (by omega) hL ho hX hP (fun I2 f2 X2 o2 => ?_)
    refine lv_loop hlv hm (by omega) hL (by omega) 160 I2 _ _ f2 X2 (fun c s q => ⟨o2 c s q, ?_⟩) k
    rcases r with s0 | m
    · have h1 := (xP_len vs n op (lv + 1) s0 c s q).2
      have h2 : s0.length ≤ T.length := hX.1.in.1.1
      have := hX.1.1.2.1
      omega
    · cases q
  rcases hlv with rfl | rfl
  · exact s_M_readSum first
  · exact s_M_readProduct first
theorem hm_0 {vs : Tx} {n op : Nat} (hm : HM vs n op 1) : HM vs (n + 1) op 0 := by
  intro d I D K T r sl e P hd hL ho hX hP k
  obtain ⟨d, rfl⟩ : ∃ d', d = d' + 1 := ⟨d - 1, by omega⟩
  rw [xP_step vs n op 0 (by omega), if_pos rfl] at k
  refine s_M_readCompared (hm _ _ _ _ T r sl e P (by omega) hL ho hX hP (fun I2 f2 X2 o2 => ?_))
  generalize hq : sq r (xP vs n op (0 + 1)) = q1 at *
  rcases q1 with ⟨c1, s1⟩ | m
  · have h : MP I2 T (.inl s1) := X2.1
    have o1 := o2 c1 s1 rfl
    refine (brP_f (by rw [h.in.2.2]; decide)).mpr ?_
    have stop : (∀ x t, s1 = x :: t → sgB 0 x = false) → qV (mm I D) K none (mm I2 D) := fun hs => by
      have e1 : lpQ (xP vs n op (0 + 1)) 0 1 (.inl (c1, s1)) = .inl (c1, s1) := by
        cases s1 with
        | nil => rfl
        | cons x t =>
          show (if sgB 0 x = true then _ else _) = _
          rw [hs x t rfl]
          rfl
      rw [e1] at k
      exact qV_i (k I2 f2 X2 (fun c s q => by cases q; exact o1))
    have go : ∀ x t, s1 = x :: t → sgB 0 x = true → CV d 180 [vR (some 106)] (mm (up2 I2 106 3 (I2 106 3 + 1)) D) (fun I3 => CV d 184 [vR (some 106), vI x] (mm I3 D) (fun I4 => qV (mm I D) K none (mm I4 D))) := fun x t es hx => by
      subst es
      refine op_body hm (by omega) (hL.gf f2) o1 hx X2 (by omega) (fun I3 f3 X3 o3 => qV_i ?_)
      have e1 : lpQ (xP vs n op (0 + 1)) 0 1 (.inl (c1, x :: t)) = bnd (xP vs n op (0 + 1) t) (fun c2 s2 => (.inl (c1 ++ (c2 ++ [-x]), s2) : PR Tx)) := by
        show (if sgB 0 x = true then _ else _) = _
        rw [if_pos hx]
        cases xP vs n op (0 + 1) t <;> rfl
      rw [e1] at k
      refine k I3 (f2.tr f3) ?_ ?_
      · cases hc : xP vs n op (0 + 1) t with
        | inr m =>
          rw [hc] at X3
          exact X3
        | inl cs =>
          obtain ⟨c2, s2⟩ := cs
          rw [hc] at X3
          have e2 : apE e (.inl (c1 ++ (c2 ++ [-x]), s2)) = apE (apE e (.inl (c1, x :: t))) (.inl (c2 ++ [-x], s2)) := by
            show e ++ encV (c1 ++ (c2 ++ [-x])) = e ++ encV c1 ++ encV (c2 ++ [-x])
            rw [encV_app c1, List.append_assoc]
          show MZ I3 T (.inl s2) sl (apE e (.inl (c1 ++ (c2 ++ [-x]), s2))) (P + 1)
          rw [e2]
          exact X3
      · intro c s q
        cases hc : xP vs n op (0 + 1) t with
        | inr m => rw [hc] at q; cases q
        | inl cs => exact o3 _ _ hc
    rw [e_here h]
    cases s1 with
    | nil =>
      refine (brP_f (by decide)).mpr ?_
      rw [e_here h]
      refine (brP_f (by decide)).mpr ?_
      rw [e_here h]
      exact (brP_f (by decide)).mpr (stop (fun x t e => by cases e))
    | cons x t =>
      refine brP_i (fun c => ?_) (fun c1 => ?_)
      · rw [e_here h]
        exact go x t rfl (by rw [show x = 60 from c]; rfl)
      · rw [e_here h]
        refine brP_i (fun c => ?_) (fun c2 => ?_)
        · rw [e_here h]
          exact go x t rfl (by rw [show x = 61 from c]; rfl)
        · rw [e_here h]
          refine brP_i (fun c => ?_) (fun c3 => stop (fun y u e => ?_))
          · rw [e_here h]
            exact go x t rfl (by rw [show x = 62 from c]; rfl)
          · cases e
            show (decide (x = 60) || decide (x = 61) || decide (x = 62)) = false
            rw [decide_eq_false (show ¬ x = 60 from c1), decide_eq_false (show ¬ x = 61 from c2), decide_eq_false (show ¬ x = 62 from c3)]
            rfl
  · have hfl : ¬ I2 106 4 < 0 := fun c => by
      obtain ⟨s, e⟩ := X2.1.fl.mp c
      cases e
    exact (brP_t (Int32.not_lt.mp hfl)).mpr (qV_i (k I2 f2 X2 (fun c s q => by cases q)))
