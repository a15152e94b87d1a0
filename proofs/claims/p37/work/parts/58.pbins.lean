/-! The law's own bins. -/
def gmk (D : DY) (n k w : Nat) : DY := (dZ D + (1 + n), dL D + (n + n * k), fun b => if b = dZ D then 27 else if dZ D < b ∧ b < dZ D + (1 + n) then 20 else dK D b, fun b => if b = dZ D then n else if dZ D < b ∧ b < dZ D + (1 + n) then k else dN D b,
  fun b j => if b = dZ D then (if j < n then some (dZ D + 1 + j) else none) else if dZ D < b ∧ b < dZ D + (1 + n) then none else dR D b j, fun b => if dZ D ≤ b ∧ b < dZ D + (1 + n) then w else dW D b)
def zgI (I : IM) (z n : Nat) : IM := fun b j => if z ≤ b ∧ b < z + (1 + n) then 0 else I b j
theorem mkG_mm {I : IM} {D : DY} {n k : Nat} (w : Nat) (h : 159 ≤ dZ D) : mkG (mm I D) n k = mm (zgI I (dZ D) n) (gmk D n k w) := by
  unfold mkG mm gmk
  refine Prod.ext rfl (Prod.ext rfl (Prod.ext ?_ (Prod.ext ?_ (Prod.ext rfl ?_))))
  · funext b
    show (if b = dZ D then 27 else if dZ D < b ∧ b < dZ D + (1 + n) then 20 else (bif Nat.ble nST b then dK D b else kdT b)) = (bif Nat.ble nST b then (if b = dZ D then 27 else if dZ D < b ∧ b < dZ D + (1 + n) then 20 else dK D b) else kdT b)
    by_cases hb : dZ D ≤ b
    · have e : Nat.ble nST b = true := Nat.ble_eq_true_of_le (Nat.le_trans h hb)
      rw [e]
      rfl
    · rw [if_neg (by omega), if_neg (by omega), if_neg (by omega), if_neg (by omega)]
  · funext b
    show (if b = dZ D then n else if dZ D < b ∧ b < dZ D + (1 + n) then k else (bif Nat.ble nST b then dN D b else (bif Nat.beq b 0 then dN D 0 else lnT b))) = (bif Nat.ble nST b then (if b = dZ D then n else if dZ D < b ∧ b < dZ D + (1 + n) then k else dN D b) else (bif Nat.beq b 0 then (if 0 = dZ D then n else if dZ D < 0 ∧ 0 < dZ D + (1 + n) then k else dN D 0) else lnT b))
    rw [if_neg (show ¬ 0 = dZ D by omega), if_neg (show ¬ (dZ D < 0 ∧ 0 < dZ D + (1 + n)) by omega)]
    by_cases hb : dZ D ≤ b
    · have e : Nat.ble nST b = true := Nat.ble_eq_true_of_le (Nat.le_trans h hb)
      rw [e]
      rfl
    · rw [if_neg (by omega), if_neg (by omega), if_neg (by omega), if_neg (by omega)]
  · funext b j
    show (if b = dZ D then (if j < n then some (dZ D + 1 + j) else none) else if dZ D < b ∧ b < dZ D + (1 + n) then none else (bif isFn b j then some (rfT b j) else dR D b j)) = (bif isFn b j then some (rfT b j) else (if b = dZ D then (if j < n then some (dZ D + 1 + j) else none) else if dZ D < b ∧ b < dZ D + (1 + n) then none else dR D b j))
    by_cases hb : dZ D ≤ b
    · rw [isFn_new (Nat.le_trans h hb)]
      rfl
    · rw [if_neg (by omega), if_neg (by omega), if_neg (by omega), if_neg (by omega)]
theorem g_chx {I : IM} {D : DY} {n k w : Nat} : CHX XN I D (zgI I (dZ D) n) (gmk D n k w) (1 + n) (n + n * k) := by
  refine ⟨⟨Nat.le_add_right _ _, Nat.le_refl _, Nat.le_refl _, fun a ha => ⟨?_, ?_, ?_, fun _ j => ?_⟩⟩, fun q j hq _ => ?_⟩
  · show (if a = dZ D then 27 else if dZ D < a ∧ a < dZ D + (1 + n) then 20 else dK D a) = _
    rw [if_neg (by omega), if_neg (by omega)]
  · show (if a = dZ D then n else if dZ D < a ∧ a < dZ D + (1 + n) then k else dN D a) = _
    rw [if_neg (by omega), if_neg (by omega)]
  · show (if dZ D ≤ a ∧ a < dZ D + (1 + n) then w else dW D a) = _
    rw [if_neg (by omega)]
  · show (if a = dZ D then (if j < n then some (dZ D + 1 + j) else none) else if dZ D < a ∧ a < dZ D + (1 + n) then none else dR D a j) = _
    rw [if_neg (by omega), if_neg (by omega)]
  · show (if dZ D ≤ q ∧ q < dZ D + (1 + n) then 0 else I q j) = _
    rw [if_neg (by omega)]
/-- eight rows of five, at c and behind -/
def BNS (D : DY) (c : Nat) : Prop := 159 ≤ c ∧ c + 9 ≤ dZ D ∧ dK D c = 27 ∧ dN D c = 8 ∧ ∀ j, j < 8 → dR D c j = some (c + 1 + j) ∧ dK D (c + 1 + j) = 20 ∧ dN D (c + 1 + j) = 5 ∧ dW D (c + 1 + j) = 2
def BNV (I : IM) (c : Nat) (f : Nat → S4) (g : Nat → Nat) : Prop := ∀ s, s < 8 → (∀ k, k < 4 → I (c + 1 + s) k = s4 k (f s)) ∧ I (c + 1 + s) 4 = z32 (g s : Int)
def inA (c : Nat) : Nat → Prop := fun a => c ≤ a ∧ a < c + 9
section
variable {d : Nat} {I : IM} {D : DY} {c : Nat}
theorem BNS.new (h : 159 ≤ dZ D) : BNS (gmk D 8 5 2) (dZ D) := by
  refine ⟨h, Nat.le_refl _, if_pos rfl, if_pos rfl, fun j hj => ⟨?_, ?_, ?_, ?_⟩⟩
  · exact (if_pos rfl).trans (if_pos hj)
  · exact (if_neg (by omega)).trans (if_pos ⟨by omega, by omega⟩)
  · exact (if_neg (by omega)).trans (if_pos ⟨by omega, by omega⟩)
  · exact if_pos ⟨by omega, by omega⟩
theorem BNV.new : BNV (zgI I (dZ D) 8) (dZ D) (fun _ => (0, 0, 0, 0)) (fun _ => 0) := fun s hs => by
  have e : ∀ k, zgI I (dZ D) 8 (dZ D + 1 + s) k = 0 := fun k => if_pos ⟨by omega, by omega⟩
  refine ⟨fun k hk => ?_, e 4⟩
  rw [e k]
  obtain rfl | rfl | rfl | rfl : k = 0 ∨ k = 1 ∨ k = 2 ∨ k = 3 := by omega
  all_goals rfl
theorem BNS.k (h : BNS D c) : pKd (mm I D) c = 27 ∧ pLn (mm I D) c = 8 := ⟨(mmK h.1).trans h.2.2.1, (mmN h.1).trans h.2.2.2.1⟩
theorem BNS.r (h : BNS D c) {s : Nat} (hs : s < 8) : pR (mm I D) c s = some (c + 1 + s) ∧ pKd (mm I D) (c + 1 + s) = 20 ∧ pLn (mm I D) (c + 1 + s) = 5 := by
  have h1 := h.1
  obtain ⟨q1, q2, q3, q4⟩ := h.2.2.2.2 s hs
  exact ⟨(mmR (isFn_new h1)).trans q1, (mmK (by show 159 ≤ _; omega)).trans q2, (mmN (by show 159 ≤ _; omega)).trans q3⟩
/-- the row of a stream -/
theorem BNS.go (h : BNS D c) {s : Nat} (hs : s < 8) {P : Nat → Prop} (k : P (c + 1 + s)) : onR False (some c) (fun a1 => tsP (pKd (mm I D) a1 = 27) (tsP (inB (z32 (s : Int)) (pLn (mm I D) a1)) (onR False (pR (mm I D) a1 (ixN (z32 (s : Int)))) P))) := by
  refine tsP_i h.k.1 (tsP_i (by rw [h.k.2]; exact inB_n hs (by omega)) ?_)
  rw [ix_n (by omega), (h.r hs).1]
  exact k
/-- a field of it -/
theorem BNS.at (h : BNS D c) {s w : Nat} (hs : s < 8) (hw : w < 5) {P : Prop} (k : P) : tsP (pKd (mm I D) (c + 1 + s) = 20) (tsP (inB (z32 (w : Int)) (pLn (mm I D) (c + 1 + s))) P) := tsP_i (h.r hs).2.1 (tsP_i (by rw [(h.r hs).2.2]; exact inB_n hw (by omega)) k)
theorem BNV.up4 {f : Nat → S4} {g : Nat → Nat} (h : BNV I c f g) {s : Nat} {w : Nat} {v : Int32} {x : S4} (hs : s < 8) (hw : w < 4) (hv : v = s4 w x) (hx : ∀ k, k < 4 → k ≠ w → s4 k x = s4 k (f s)) : BNV (up2 I (c + 1 + s) w v) c (updF f s x) g := fun t ht => by
  obtain ⟨h1, h2⟩ := h t ht
  by_cases e : t = s
  · subst e
    refine ⟨fun k hk => ?_, (up2_nj (by omega)).trans h2⟩
    rw [updF_eq]
    by_cases e2 : k = w
    · rw [e2, up2_eq]
      exact hv
    · rw [up2_nj e2, h1 k hk]
      exact (hx k hk e2).symm
  · refine ⟨fun k hk => ?_, (up2_ne (by omega)).trans h2⟩
    rw [updF_ne e, up2_ne (by omega)]
    exact h1 k hk
theorem BNV.upv {f : Nat → S4} {g : Nat → Nat} (h : BNV I c f g) {s : Nat} {n : Nat} (hs : s < 8) : BNV (up2 I (c + 1 + s) 4 (z32 (n : Int))) c f (updF g s n) := fun t ht => by
  obtain ⟨h1, h2⟩ := h t ht
  by_cases e : t = s
  · subst e
    refine ⟨fun k hk => (up2_nj (by omega)).trans (h1 k hk), ?_⟩
    rw [updF_eq, up2_eq]
  · refine ⟨fun k hk => (up2_ne (by omega)).trans (h1 k hk), ?_⟩
    rw [updF_ne e, up2_ne (by omega)]
    exact h2
theorem BNV.fr {f : Nat → S4} {g : Nat → Nat} {I2 : IM} (h : BNV I c f g) (hf : ∀ a, inA c a → ∀ k, I2 a k = I a k) : BNV I2 c f g := fun t ht => by
  have q : inA c (c + 1 + t) := ⟨by omega, by omega⟩
  exact ⟨fun k hk => (hf _ q k).trans ((h t ht).1 k hk), (hf _ q 4).trans (h t ht).2⟩
/-- the law writes its own cells -/
theorem RC.own {τ : ST} {I2 : IM} (h : RC τ I D) (hf : ∀ q j, ¬ (159 ≤ q ∧ dW D q = 2) → I2 q j = I q j) : RC τ I2 D := by
  obtain ⟨T, σ, κ⟩ := τ
  have h3 : TP I T := h.2.2.1
  exact h.mono (DX.rf (c := 0) (s := 0)) (fun q j g1 g2 => hf q j (by unfold CSp at g2; omega)) (h3.lo (hf _ _ (by omega)) (fun k => hf _ _ (by omega)))
theorem RC.bns {τ : ST} (h : RC τ I D) (hb : BNS D c) {s w : Nat} {v : Int32} (hs : s < 8) : RC τ (up2 I (c + 1 + s) w v) D := h.own (fun q j hq => up2_ne (fun e => hq ⟨by have := hb.1; omega, by rw [e]; exact (hb.2.2.2.2 s hs).2.2.2⟩))
theorem LW.bns (h : LW I) (hb : BNS D c) {s w : Nat} {v : Int32} : LW (up2 I (c + 1 + s) w v) := h.fr (fun q k h1 h2 => up2_ne (by have := hb.1; omega))
/-! what the class's methods leave of them -/
def FKI (A : Nat → Prop) (I I2 : IM) : Prop := ∀ a, A a → ∀ k, I2 a k = I a k
theorem CI.use {y : Nat} {as : List PV} {K K2 : Int32 → IM → Prop} (h : CI d y as (mm I D) K) (hk : ∀ x I2, K x I2 → K2 x I2) : CI d y as (mm I D) K2 := Mt.mono h fun _ _ ⟨x, I2, e1, e2, hk2⟩ => ⟨x, I2, e1, e2, hk x I2 hk2⟩
theorem AI.use {y : Nat} {as : List PV} {K K2 : Int32 → IM → DY → Prop} (h : AI d y as (mm I D) K) (hk : ∀ x I2 D2, K x I2 D2 → K2 x I2 D2) : AI d y as (mm I D) K2 := Mt.mono h fun _ _ ⟨x, I2, D2, e1, e2, hk2⟩ => ⟨x, I2, D2, e1, e2, hk x I2 D2 hk2⟩
theorem out45 {A : Nat → Prop} {l : List Int32} (hc : clo A (mm I D)) : outL A (dZ D) (vR (some 45) :: l.map vI) := outL.cons (out_c hc (by decide)) (fun v hv => by
  obtain ⟨x, -, rfl⟩ := List.mem_map.mp hv
  trivial)
variable {A : Nat → Prop} {τ : ST}
theorem q_event {K : Int32 → IM → Prop} (h : RC τ I D) (wf : WF (tS τ)) (hc : clo A (mm I D)) (p w : Int32) (k : ∀ I2, FrM I I2 → RC τ I2 D → FKI A I I2 → K (S_event τ p w) I2) : CI (d + 100) 99 [vR (some 45), vI p, vI w] (mm I D) K :=
  (CI.fk hc (out45 (l := [p, w]) hc) (p_event (d := d) (K := fun x I2 => x = S_event τ p w ∧ FrM I I2 ∧ RC τ I2 D) h wf p w (fun I2 f r => ⟨rfl, f, r⟩))).use fun x I2 ⟨⟨e, f, r⟩, q⟩ => by rw [e]; exact k I2 f r (fun a ha j => (q.2.2.2 a ha j).1)
theorem q_find {K : Int32 → IM → Prop} (h : RC τ I D) (wf : WF (tS τ)) (hc : clo A (mm I D)) (p w : Int32) (k : ∀ I2, FrM I I2 → RC τ I2 D → FKI A I I2 → K (S_find τ p w) I2) : CI (d + 100) 106 [vR (some 45), vI p, vI w] (mm I D) K :=
  (CI.fk hc (out45 (l := [p, w]) hc) (p_find (d := d) (K := fun x I2 => x = S_find τ p w ∧ FrM I I2 ∧ RC τ I2 D) h wf p w (fun I2 f r => ⟨rfl, f, r⟩))).use fun x I2 ⟨⟨e, f, r⟩, q⟩ => by rw [e]; exact k I2 f r (fun a ha j => (q.2.2.2 a ha j).1)
theorem q_steps {K : Int32 → IM → Prop} (h : RC τ I D) (hc : clo A (mm I D)) (p w : Int32) (k : ∀ I2, FrM I I2 → RC τ I2 D → FKI A I I2 → K (S_steps τ p w) I2) : CI (d + 100) 91 [vR (some 45), vI p, vI w] (mm I D) K :=
  (CI.fk hc (out45 (l := [p, w]) hc) (p_steps (d := d) (K := fun x I2 => x = S_steps τ p w ∧ FrM I I2 ∧ RC τ I2 D) h p w (fun I2 f r => ⟨rfl, f, r⟩))).use fun x I2 ⟨⟨e, f, r⟩, q⟩ => by rw [e]; exact k I2 f r (fun a ha j => (q.2.2.2 a ha j).1)
theorem q_state {K : Int32 → IM → Prop} (h : RC τ I D) (hc : clo A (mm I D)) (p w : Int32) (k : ∀ I2, FrM I I2 → RC τ I2 D → FKI A I I2 → K (S_state τ p w) I2) : CI (d + 100) 87 [vR (some 45), vI p, vI w] (mm I D) K :=
  (CI.fk hc (out45 (l := [p, w]) hc) (p_state (d := d) (K := fun x I2 => x = S_state τ p w ∧ FrM I I2 ∧ RC τ I2 D) h p w (fun I2 f r => ⟨rfl, f, r⟩))).use fun x I2 ⟨⟨e, f, r⟩, q⟩ => by rw [e]; exact k I2 f r (fun a ha j => (q.2.2.2 a ha j).1)
theorem q_at {K : Int32 → IM → Prop} (h : RC τ I D) (wf : WF (tS τ)) (hc : clo A (mm I D)) (p v w : Int32) (k : ∀ I2, FrM I I2 → RC τ I2 D → FKI A I I2 → K (S_at τ p v w) I2) : CI (d + 100) 88 [vR (some 45), vI p, vI v, vI w] (mm I D) K :=
  (CI.fk hc (out45 (l := [p, v, w]) hc) (p_at (d := d) (K := fun x I2 => x = S_at τ p v w ∧ FrM I I2 ∧ RC τ I2 D) h wf p v w (fun I2 f r => ⟨rfl, f, r⟩))).use fun x I2 ⟨⟨e, f, r⟩, q⟩ => by rw [e]; exact k I2 f r (fun a ha j => (q.2.2.2 a ha j).1)
end
