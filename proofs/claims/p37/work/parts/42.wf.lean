/-! What texts give is well formed. -/
def CG (nv d : Nat) (c : Tx) : Prop := (∀ x ∈ c, okE nv x) ∧ ∀ ys, dpV 32 (c ++ ys) d = dpV 32 ys (d + 1)
theorem okE_num {nv : Nat} {v : Int} (h : 0 ≤ v ∧ v < 10000) : okE nv (z32 v) := Or.inl (by rw [z32_toInt] <;> omega)
theorem nbP_v {m : Int} {s : Tx} {v : Int} {s2 : Tx} (h : nbP m s = .inl (v, s2)) : 0 ≤ v ∧ v ≤ m := by
  unfold nbP at h
  split at h
  · cases h
  · rename_i q
    cases h
    have := dgV_b _ (dgOf s) rfl List.all_takeWhile
    exact ⟨this.1, by
      rcases Int.lt_or_le m (dgV (dgOf s)) with c | c
      · exact absurd (Or.inr c) q
      · exact c⟩
theorem CG.num {nv d : Nat} {x : Int32} (hx : okE nv x) (h0 : 0 ≤ x) (hd : d < 32) : CG nv d [x] := by
  refine ⟨fun y hy => by rw [List.mem_singleton] at hy; rw [hy]; exact hx, fun ys => ?_⟩
  show (if 0 ≤ x then (if d < 32 then dpV 32 ys (d + 1) else none) else _) = _
  rw [if_pos h0, if_pos hd]
theorem CG.neg {nv d : Nat} {c : Tx} (h : CG nv d c) : CG nv d (c ++ [-1000]) := by
  refine ⟨fun y hy => ?_, fun ys => ?_⟩
  · rw [List.mem_append, List.mem_singleton] at hy
    rcases hy with hy | rfl
    · exact h.1 y hy
    · exact Or.inr (Or.inl rfl)
  · rw [List.append_assoc, h.2]
    show (if (0 : Int32) ≤ -1000 then _ else if (-1000 : Int32) = -1000 then (if 1 ≤ d + 1 then dpV 32 ys (d + 1) else none) else _) = _
    rw [if_neg (by decide), if_pos rfl, if_pos (by omega)]
theorem sg_cases {lv : Nat} {x : Int32} (h : sgB lv x = true) : -x = -43 ∨ -x = -45 ∨ -x = -42 ∨ -x = -47 ∨ -x = -37 ∨ -x = -60 ∨ -x = -61 ∨ -x = -62 := by
  have : x = 43 ∨ x = 45 ∨ x = 42 ∨ x = 47 ∨ x = 37 ∨ x = 60 ∨ x = 61 ∨ x = 62 := by
    rcases lv with _ | _ | lv
    · have h : (decide (x = 60) || decide (x = 61) || decide (x = 62)) = true := h
      simp only [Bool.or_eq_true, decide_eq_true_eq] at h
      rcases h with (h | h) | h <;> simp [h]
    · have h : (decide (x = 43) || decide (x = 45)) = true := h
      simp only [Bool.or_eq_true, decide_eq_true_eq] at h
      rcases h with h | h <;> simp [h]
    · have h : (decide (x = 42) || decide (x = 47) || decide (x = 37)) = true := h
      simp only [Bool.or_eq_true, decide_eq_true_eq] at h
      rcases h with (h | h) | h <;> simp [h]
  rcases this with rfl | rfl | rfl | rfl | rfl | rfl | rfl | rfl <;> simp
theorem CG.bin {nv d : Nat} {c c2 : Tx} {y : Int32} (h : CG nv d c) (h2 : CG nv (d + 1) c2) (hy : y = -43 ∨ y = -45 ∨ y = -42 ∨ y = -47 ∨ y = -37 ∨ y = -60 ∨ y = -61 ∨ y = -62) : CG nv d (c ++ (c2 ++ [y])) := by
  refine ⟨fun z hz => ?_, fun ys => ?_⟩
  · rw [List.mem_append, List.mem_append, List.mem_singleton] at hz
    rcases hz with hz | hz | rfl
    · exact h.1 z hz
    · exact h2.1 z hz
    · exact Or.inr (Or.inr hy)
  · rw [List.append_assoc, h.2, List.append_assoc, h2.2]
    show (if 0 ≤ y then _ else if y = -1000 then _ else (if 2 ≤ d + 1 + 1 then dpV 32 ys (d + 1 + 1 - 1) else none)) = _
    have h0 : ¬ 0 ≤ y := by rcases hy with rfl | rfl | rfl | rfl | rfl | rfl | rfl | rfl <;> decide
    have h1 : y ≠ -1000 := by rcases hy with rfl | rfl | rfl | rfl | rfl | rfl | rfl | rfl <;> decide
    rw [if_neg h0, if_neg h1, if_pos (by omega)]
    rfl
theorem bnd_inv {α β : Type} {r : PR α} {f : α → Tx → PR β} {v : β} {s : Tx} (h : bnd r f = .inl (v, s)) : ∃ a s1, r = .inl (a, s1) ∧ f a s1 = .inl (v, s) := by
  rcases r with ⟨a, s1⟩ | m
  · exact ⟨a, s1, rfl, h⟩
  · cases h
theorem lpP_wf {nv d lv : Nat} {X : Tx → PR Tx} (hX : ∀ s c s2, X s = .inl (c, s2) → CG nv (d + 1) c) : ∀ (g : Nat) (c s c2 s2 : Tx), CG nv d c → lpP X lv g c s = .inl (c2, s2) → CG nv d c2 := by
  intro g
  induction g with
  | zero => intro c s c2 s2 hc h; cases h; exact hc
  | succ g ih =>
    intro c s c2 s2 hc h
    cases s with
    | nil => cases h; exact hc
    | cons x t =>
      have h : (if sgB lv x then bnd (X t) (fun c2 s2 => lpP X lv g (c ++ (c2 ++ [-x])) s2) else .inl (c, x :: t)) = .inl (c2, s2) := h
      by_cases q : sgB lv x = true
      · rw [if_pos q] at h
        obtain ⟨c3, s3, e1, e2⟩ := bnd_inv h
        exact ih _ _ _ _ (hc.bin (hX _ _ _ e1) (sg_cases q)) e2
      · rw [if_neg q] at h
        cases h
        exact hc
theorem ltP_wf {vs : Tx} {d : Nat} {s c s2 : Tx} (hv : vs.length ≤ 1000) (hd : d < 32) (h : ltP vs s = .inl (c, s2)) : CG vs.length d c := by
  cases s with
  | nil => cases h
  | cons x t =>
    have h : (match ixS vs x with
      | some k => ltE k t
      | none => .inr (t.length + 1)) = .inl (c, s2) := h
    cases hx : ixS vs x with
    | none => rw [hx] at h; cases h
    | some k =>
      rw [hx] at h
      have hk := (ixS_some hx).1
      have h : ltE k t = .inl (c, s2) := h
      rcases ltE_or k t with e | e
      · rw [e] at h
        cases h
        refine CG.num (Or.inl ?_) (by rw [z32_0, z32_le] <;> omega) hd
        rw [z32_toInt] <;> omega
      · rw [e] at h
        cases h
theorem xP_wf {vs : Tx} (hv : vs.length ≤ 1000) : ∀ (n op lv d : Nat) (s c s2 : Tx), op ≤ 6 → lv ≤ 3 → d + 3 * (6 - op) + (3 - lv) + 1 ≤ 32 → xP vs n op lv s = .inl (c, s2) → CG vs.length d c := by
  intro n
  induction n with
  | zero => intro op lv d s c s2 _ _ _ h; cases h
  | succ n ih =>
    intro op lv d s c s2 hop hlv hd h
    by_cases q : 3 ≤ lv
    · have h : opP0 vs (xP vs n (op + 1) 0) (xP vs n (op + 1) 3) op s = .inl (c, s2) := by
        have := h
        unfold xP at this
        rwa [if_pos q] at this
      cases s with
      | nil => cases h
      | cons x t =>
        unfold opP0 at h
        dsimp only at h
        split at h
        · obtain ⟨v, s1, e1, e2⟩ := bnd_inv h
          cases e2
          have := nbP_v e1
          exact CG.num (okE_num (by omega)) (by rw [z32_0, z32_le] <;> omega) (by omega)
        · split at h
          · split at h
            · cases h
            · obtain ⟨c1, s1, e1, e2⟩ := bnd_inv h
              cases e2
              exact (ih (op + 1) 3 d _ _ _ (by omega) (by omega) (by omega) e1).neg
          · split at h
            · split at h
              · cases h
              · obtain ⟨c1, s1, e1, e2⟩ := bnd_inv h
                obtain ⟨u, s3, e3, e4⟩ := bnd_inv e2
                cases e4
                exact ih (op + 1) 0 d _ _ _ (by omega) (by omega) (by omega) e1
            · exact ltP_wf hv (by omega) h
    · have h : bnd (xP vs n op (lv + 1) s) (fun c s => lpP (xP vs n op (lv + 1)) lv (if lv = 0 then 1 else 160) c s) = .inl (c, s2) := by
        have := h
        unfold xP at this
        rwa [if_neg q] at this
      obtain ⟨c1, s1, e1, e2⟩ := bnd_inv h
      exact lpP_wf (fun s c s2 e => ih op (lv + 1) (d + 1) s c s2 hop (by omega) (by omega) e) _ _ _ _ _ (ih op (lv + 1) d _ _ _ hop (by omega) (by omega) e1) e2
theorem cP_wf {vs : Tx} {op : Nat} {s c s2 : Tx} (hv : vs.length ≤ 1000) (hop : op ≤ 6) (hs : s.length ≤ 160) (h : cP vs op s = .inl (c, s2)) : cWF vs.length c := by
  have h1 := xP_wf hv _ op 0 0 s c s2 hop (by omega) (by omega) h
  have h2 := xP_len vs _ _ _ _ _ _ h
  refine ⟨h1.1, ?_, by omega⟩
  have := h1.2 []
  rw [List.append_nil] at this
  exact this
theorem cWF1 : cWF 3 [1] := by
  refine ⟨fun x hx => ?_, by decide, by decide⟩
  rw [List.mem_singleton] at hx
  subst hx
  exact Or.inl (by decide)
theorem nbP_le {m : Int} {s : Tx} {v : Int} {s2 : Tx} (h : nbP m s = .inl (v, s2)) : s2.length ≤ s.length := Nat.le_of_lt (nbP_len h)
theorem tkP_le {c : Int32} {s : Tx} {u : Unit} {s2 : Tx} (h : tkP c s = .inl (u, s2)) : s2.length ≤ s.length := by
  rw [tkP_len h, List.length_cons]
  omega
theorem wdP_le {ws : List Tx} {s : Tx} {k : Nat} {s2 : Tx} (h : wdP ws s = .inl (k, s2)) : s2.length ≤ s.length := by
  unfold wdP at h
  split at h
  · cases h
    rw [List.length_drop]
    omega
  · cases h
theorem cmA_wf {pol : Bool} {s : Tx} {am : Int × Option Tx} {s2 : Tx} (hs : s.length ≤ 160) (h : cmA pol s = .inl (am, s2)) : 0 ≤ am.1 ∧ am.1 ≤ 999 ∧ (∀ c, am.2 = some c → cWF 3 c) ∧ (pol = false → am.2 = none) := by
  unfold cmA at h
  split at h
  · rename_i hq
    obtain ⟨c, s1, e1, e2⟩ := bnd_inv h
    obtain ⟨u, s3, e3, e4⟩ := bnd_inv e2
    cases e4
    have hl : (s.drop 1).length ≤ 160 := by rw [List.length_drop]; omega
    refine ⟨Int.le_refl _, by show (0 : Int) ≤ 999; omega, fun c2 e => ?_, fun e => ?_⟩
    · cases e
      exact cP_wf (vs := absV) (by decide) (by omega) hl e1
    · rw [e] at hq
      cases hq
  · obtain ⟨v, s1, e1, e2⟩ := bnd_inv h
    cases e2
    have := nbP_v e1
    exact ⟨this.1, this.2, (fun c e => by cases e), fun _ => rfl⟩
theorem cmT_wf {k : Nat} {s : Tx} {t : Int} {s2 : Tx} (h : cmT k s = .inl (t, s2)) : 0 ≤ t ∧ t ≤ 7 := by
  unfold cmT at h
  split at h
  · obtain ⟨_, s1, _, e2⟩ := bnd_inv h
    obtain ⟨_, s3, _, e4⟩ := bnd_inv e2
    obtain ⟨_, s5, _, e6⟩ := bnd_inv e4
    exact nbP_v e6
  · cases h
    exact ⟨Int.le_refl _, by omega⟩
theorem cmP_wf {pol : Bool} {s : Tx} {cm : Cm} {s2 : Tx} (hs : s.length ≤ 160) (h : cmP pol s = .inl (cm, s2)) : okCm cm ∧ (pol = false → cm.2.2.2 = none) := by
  unfold cmP at h
  obtain ⟨k, s1, e1, e2⟩ := bnd_inv h
  have hk := wdP_lt e1
  have hk : k < 8 := hk
  split at e2
  · cases e2
    exact ⟨⟨by decide, by decide, by decide, by decide, by decide, fun c e => by cases e⟩, fun _ => rfl⟩
  · rename_i h7
    obtain ⟨u, s3, e3, e4⟩ := bnd_inv e2
    obtain ⟨am, s4, e5, e6⟩ := bnd_inv e4
    obtain ⟨t, s5, e7, e8⟩ := bnd_inv e6
    cases e8
    have l1 := wdP_le e1
    have l3 := tkP_le e3
    obtain ⟨g1, g2, g3, g4⟩ := cmA_wf (by omega) e5
    have gt := cmT_wf e7
    exact ⟨⟨by show k < 9; omega, h7, g1, g2, by show t.toNat < 8; omega, g3⟩, g4⟩
theorem lnP_wf {s : Tx} {x : LN} {s2 : Tx} (hs : s.length ≤ 160) (h : lnP s = .inl (x, s2)) : okLn x ∧ x.2.2.2.2 = none := by
  unfold lnP at h
  obtain ⟨v, s1, e1, e2⟩ := bnd_inv h
  obtain ⟨u, s3, e3, e4⟩ := bnd_inv e2
  obtain ⟨c, s5, e5, e6⟩ := bnd_inv e4
  cases e6
  have l1 := nbP_le e1
  have l3 := tkP_le e3
  have := nbP_v e1
  have hw := cmP_wf (by omega) e5
  exact ⟨⟨by show v.toNat < 8; omega, hw.1⟩, hw.2 rfl⟩
theorem xP_le {vs : Tx} {op : Nat} {s c s2 : Tx} (h : cP vs op s = .inl (c, s2)) : s2.length ≤ s.length := by
  have := xP_len vs _ _ _ _ _ _ h
  omega
theorem cmA_le {pol : Bool} {s : Tx} {am : Int × Option Tx} {s2 : Tx} (h : cmA pol s = .inl (am, s2)) : s2.length ≤ s.length := by
  unfold cmA at h
  split at h
  · obtain ⟨c, s1, e1, e2⟩ := bnd_inv h
    obtain ⟨u, s3, e3, e4⟩ := bnd_inv e2
    cases e4
    have l1 := xP_le e1
    have l3 := tkP_le e3
    rw [List.length_drop] at l1
    omega
  · obtain ⟨v, s1, e1, e2⟩ := bnd_inv h
    cases e2
    exact nbP_le e1
theorem cmT_le {k : Nat} {s : Tx} {t : Int} {s2 : Tx} (h : cmT k s = .inl (t, s2)) : s2.length ≤ s.length := by
  unfold cmT at h
  split at h
  · obtain ⟨_, s1, e1, e2⟩ := bnd_inv h
    obtain ⟨_, s3, e3, e4⟩ := bnd_inv e2
    obtain ⟨_, s5, e5, e6⟩ := bnd_inv e4
    have := tkP_le e1
    have := wdP_le e3
    have := tkP_le e5
    have := nbP_le e6
    omega
  · cases h
    exact Nat.le_refl _
theorem cmP_le {pol : Bool} {s : Tx} {cm : Cm} {s2 : Tx} (h : cmP pol s = .inl (cm, s2)) : s2.length ≤ s.length := by
  unfold cmP at h
  obtain ⟨k, s1, e1, e2⟩ := bnd_inv h
  have l1 := wdP_le e1
  split at e2
  · cases e2
    exact l1
  · obtain ⟨u, s3, e3, e4⟩ := bnd_inv e2
    obtain ⟨am, s4, e5, e6⟩ := bnd_inv e4
    obtain ⟨t, s5, e7, e8⟩ := bnd_inv e6
    cases e8
    have := tkP_le e3
    have := cmA_le e5
    have := cmT_le e7
    omega
theorem lnP_le {s : Tx} {x : LN} {s2 : Tx} (h : lnP s = .inl (x, s2)) : s2.length ≤ s.length := by
  unfold lnP at h
  obtain ⟨v, s1, e1, e2⟩ := bnd_inv h
  obtain ⟨u, s3, e3, e4⟩ := bnd_inv e2
  obtain ⟨c, s5, e5, e6⟩ := bnd_inv e4
  cases e6
  have := nbP_le e1
  have := tkP_le e3
  have := cmP_le e5
  omega
theorem lnsP_wf : ∀ (g : Nat) (l : List LN) (s : Tx) (l2 : List LN) (s2 : Tx), s.length ≤ 160 → (∀ x ∈ l, okLn x ∧ x.2.2.2.2 = none) → lnsP g l s = .inl (l2, s2) → ∀ x ∈ l2, okLn x ∧ x.2.2.2.2 = none := by
  intro g
  induction g with
  | zero => intro l s l2 s2 _ hl h; cases h; exact hl
  | succ g ih =>
    intro l s l2 s2 hs hl h
    obtain ⟨c, s1, e1, e2⟩ := bnd_inv (show bnd (lnP s) (fun c s => match s with
      | x :: t => if x = 59 then lnsP g (l ++ [c]) t else .inl (l ++ [c], s)
      | [] => .inl (l ++ [c], s)) = .inl (l2, s2) from h)
    have l1 := lnP_le e1
    have hc := lnP_wf hs e1
    have hl2 : ∀ x ∈ l ++ [c], okLn x ∧ x.2.2.2.2 = none := fun x hx => by
      rw [List.mem_append, List.mem_singleton] at hx
      rcases hx with hx | rfl
      · exact hl x hx
      · exact hc
    cases s1 with
    | nil => cases e2; exact hl2
    | cons x t =>
      dsimp only at e2
      split at e2
      · rw [List.length_cons] at l1
        exact ih _ _ _ _ (by omega) hl2 e2
      · cases e2
        exact hl2
theorem kdL_m : ∀ (g : Nat) (m : Int32) (s : Tx) (m2 : Int32) (s2 : Tx), (∃ n : Nat, n < 512 ∧ m = z32 (n : Int)) → kdL g m s = .inl (m2, s2) → ∃ n : Nat, n < 512 ∧ m2 = z32 (n : Int) := by
  intro g
  induction g with
  | zero => intro m s m2 s2 hm h; cases h; exact hm
  | succ g ih =>
    intro m s m2 s2 hm h
    cases s with
    | nil => cases h; exact hm
    | cons x t =>
      unfold kdL at h
      dsimp only at h
      split at h
      · obtain ⟨k, s1, e1, e2⟩ := bnd_inv h
        have hk : k < 9 := wdP_lt e1
        obtain ⟨n, hn, rfl⟩ := hm
        refine ih _ _ _ _ ⟨n ||| 2 ^ k, Nat.or_lt_two_pow (n := 9) hn ?_, or9 n hn k hk⟩ e2
        exact Nat.pow_lt_pow_right (by omega) hk
      · cases h
        exact hm
theorem kdP_m {s : Tx} {m : Int32} {s2 : Tx} (h : kdP s = .inl (m, s2)) : ∃ n : Nat, n < 512 ∧ m = z32 (n : Int) := by
  unfold kdP at h
  obtain ⟨k, s1, e1, e2⟩ := bnd_inv h
  have hk : k < 10 := wdP_lt e1
  split at e2
  · cases e2
    exact ⟨511, by omega, rfl⟩
  · refine kdL_m _ _ _ _ _ ⟨2 ^ k, ?_, ?_⟩ e2
    · exact Nat.pow_lt_pow_right (n := 9) (by omega) (by omega)
    · have := or9 0 (by omega) k (by omega)
      rw [Nat.zero_or] at this
      rw [← this]
      show _ = (0 : Int32) ||| _
      simp
theorem kdL_le : ∀ (g : Nat) (m : Int32) (s : Tx) (m2 : Int32) (s2 : Tx), kdL g m s = .inl (m2, s2) → s2.length ≤ s.length := by
  intro g
  induction g with
  | zero => intro m s m2 s2 h; cases h; exact Nat.le_refl _
  | succ g ih =>
    intro m s m2 s2 h
    cases s with
    | nil => cases h; exact Nat.le_refl _
    | cons x t =>
      unfold kdL at h
      dsimp only at h
      split at h
      · obtain ⟨k, s1, e1, e2⟩ := bnd_inv h
        have := wdP_le e1
        have := ih _ _ _ _ e2
        rw [List.length_cons]
        omega
      · cases h
        exact Nat.le_refl _
theorem kdP_le {s : Tx} {m : Int32} {s2 : Tx} (h : kdP s = .inl (m, s2)) : s2.length ≤ s.length := by
  unfold kdP at h
  obtain ⟨k, s1, e1, e2⟩ := bnd_inv h
  have := wdP_le e1
  split at e2
  · cases e2
    exact this
  · have := kdL_le _ _ _ _ _ e2
    omega
theorem pjP_wf {s : Tx} {x : Nat × Int32 × Nat × Tx} {s2 : Tx} (hs : s.length ≤ 160) (h : pjP s = .inl (x, s2)) : x.1 < 6 ∧ x.2.2.1 < 3 ∧ cWF 3 x.2.2.2 ∧ ∃ n : Nat, n < 512 ∧ x.2.1 = z32 (n : Int) := by
  unfold pjP at h
  obtain ⟨f, s1, e1, h⟩ := bnd_inv h
  obtain ⟨_, s2', e2, h⟩ := bnd_inv h
  obtain ⟨_, s3, e3, h⟩ := bnd_inv h
  obtain ⟨_, s4, e4, h⟩ := bnd_inv h
  obtain ⟨m, s5, e5, h⟩ := bnd_inv h
  obtain ⟨_, s6, e6, h⟩ := bnd_inv h
  obtain ⟨_, s7, e7, h⟩ := bnd_inv h
  obtain ⟨_, s8, e8, h⟩ := bnd_inv h
  obtain ⟨y, s9, e9, h⟩ := bnd_inv h
  obtain ⟨c, s10, e10, h⟩ := bnd_inv h
  cases h
  have l1 := wdP_le e1
  have l2 := tkP_le e2
  have l3 := wdP_le e3
  have l4 := tkP_le e4
  have l5 := kdP_le e5
  have l6 := tkP_le e6
  have l7 := wdP_le e7
  have l8 := tkP_le e8
  have l9 := wdP_le e9
  refine ⟨wdP_lt e1, wdP_lt e9, ?_, kdP_m e5⟩
  show cWF 3 c
  cases s9 with
  | nil => cases e10; exact cWF1
  | cons z t =>
    unfold pjI at e10
    dsimp only at e10
    split at e10
    · obtain ⟨_, t1, f1, e10⟩ := bnd_inv e10
      obtain ⟨_, t2, f2, e10⟩ := bnd_inv e10
      have m1 := wdP_le f1
      have m2 := tkP_le f2
      rw [List.length_cons] at l9
      exact cP_wf (vs := absV) (by decide) (by omega) (by omega) e10
    · cases e10
      exact cWF1
theorem plP_wf {s : Tx} {x : Int32 × Tx × Cm} {s2 : Tx} (hs : s.length ≤ 160) (h : plP s = .inl (x, s2)) : cWF 3 x.2.1 ∧ okCm x.2.2 ∧ ∃ n : Nat, n < 512 ∧ x.1 = z32 (n : Int) := by
  unfold plP at h
  obtain ⟨_, s1, e1, h⟩ := bnd_inv h
  obtain ⟨_, s2', e2, h⟩ := bnd_inv h
  obtain ⟨m, s3, e3, h⟩ := bnd_inv h
  obtain ⟨_, s4, e4, h⟩ := bnd_inv h
  obtain ⟨w, s5, e5, h⟩ := bnd_inv h
  obtain ⟨c, s6, e6, h⟩ := bnd_inv h
  obtain ⟨_, s7, e7, h⟩ := bnd_inv h
  obtain ⟨k, s8, e8, h⟩ := bnd_inv h
  cases h
  have l1 := wdP_le e1
  have l2 := tkP_le e2
  have l3 := kdP_le e3
  have l4 := tkP_le e4
  have l5 := wdP_le e5
  have l7 := tkP_le e7
  have hc : cWF 3 c ∧ s6.length ≤ s5.length := by
    unfold plI at e6
    split at e6
    · obtain ⟨_, t1, f1, e6⟩ := bnd_inv e6
      obtain ⟨c2, t2, f2, e6⟩ := bnd_inv e6
      obtain ⟨_, t3, f3, e6⟩ := bnd_inv e6
      obtain ⟨_, t4, f4, e6⟩ := bnd_inv e6
      cases e6
      have m1 := tkP_le f1
      have m2 := xP_le f2
      have m3 := tkP_le f3
      have m4 := wdP_le f4
      exact ⟨cP_wf (vs := absV) (by decide) (by omega) (by omega) f2, by omega⟩
    · cases e6
      exact ⟨cWF1, Nat.le_refl _⟩
  exact ⟨hc.1, (cmP_wf (by omega) e8).1, kdP_m e3⟩
theorem upP_wf {s : Tx} {x : Nat × Tx × Tx} {s2 : Tx} (hs : s.length ≤ 160) (h : upP s = .inl (x, s2)) : x.1 < 9 ∧ cWF 3 x.2.1 ∧ cWF 3 x.2.2 := by
  unfold upP at h
  obtain ⟨k, s1, e1, h⟩ := bnd_inv h
  obtain ⟨_, s2', e2, h⟩ := bnd_inv h
  obtain ⟨a, s3, e3, h⟩ := bnd_inv h
  obtain ⟨_, s4, e4, h⟩ := bnd_inv h
  obtain ⟨b, s5, e5, h⟩ := bnd_inv h
  cases h
  have l1 := wdP_le e1
  have l2 := tkP_le e2
  have l3 := xP_le e3
  have l4 := tkP_le e4
  exact ⟨wdP_lt e1, cP_wf (vs := absV) (by decide) (by omega) (by omega) e3, cP_wf (vs := absV) (by decide) (by omega) (by omega) e5⟩
