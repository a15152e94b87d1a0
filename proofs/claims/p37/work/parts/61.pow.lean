/-! The law's row of answers, across the class's methods. -/
def OW (l2 : Nat) (I : IM) (D : DY) : Prop := clo (fun a => a = l2) (mm I D) ∧ dK D l2 = 20 ∧ dN D l2 = 6 ∧ dW D l2 = 2 ∧ dN D 0 < 2147483648
theorem OW.z {l2 : Nat} {I : IM} {D : DY} (h : OW l2 I D) : 159 ≤ l2 ∧ l2 < dZ D := h.1.2.1 l2 rfl
theorem clo.no {A : Nat → Prop} {M : PM} (h : clo A M) : clo XN M := h.sub (fun _ e => e.elim) (fun _ _ _ _ _ _ e => e.elim)
theorem OW.next {l2 : Nat} {I I2 : IM} {D D2 : DY} (h : OW l2 I D) (hf : FK (fun a => a = l2) (mm I D) (mm I2 D2)) (hw : dW D2 l2 = dW D l2) : OW l2 I2 D2 := by
  obtain ⟨z1, z2⟩ := h.z
  obtain ⟨h1, h2, h3, h4, h5⟩ := h
  have k0 : dN D2 0 = dN D 0 := (hf.2.2.1 0 (Nat.lt_of_lt_of_le (by decide) h1.1)).2
  obtain ⟨k1, k2⟩ := hf.2.2.1 l2 z2
  rw [mmK z1, mmK z1] at k1
  rw [mmN z1, mmN z1] at k2
  exact ⟨hf.2.1, k1.trans h2, k2.trans h3, hw.trans h4, by rw [k0]; exact h5⟩
/-- the class's rows alone changed -/
theorem OW.i {l2 : Nat} {I I2 : IM} {D : DY} (h : OW l2 I D) : OW l2 I2 D := h
section
variable {d : Nat} {I : IM} {D : DY} {l2 : Nat} {τ : ST}
theorem AI.ow {y : Nat} {as : List PV} {K0 K : Int32 → IM → DY → Prop} (ow : OW l2 I D) (ha : outL (fun a => a = l2) (dZ D) as) (h : AI d y as (mm I D) (fun x I2 D2 => K0 x I2 D2 ∧ GD D D2)) (k : ∀ x I2 D2, K0 x I2 D2 → GD D D2 → OW l2 I2 D2 → (∀ j, I2 l2 j = I l2 j) → K x I2 D2) : AI d y as (mm I D) K :=
  (AI.fk ow.1 ha h).use fun x I2 D2 ⟨⟨k0, g⟩, f⟩ => k x I2 D2 k0 g (ow.next f (g.2.2.2 l2 ow.z.2)) (fun j => (f.2.2.2 l2 rfl j).1)
theorem CI.ow {y : Nat} {as : List PV} {K0 K : Int32 → IM → Prop} (ow : OW l2 I D) (ha : outL (fun a => a = l2) (dZ D) as) (h : CI d y as (mm I D) K0) (k : ∀ x I2, K0 x I2 → (∀ j, I2 l2 j = I l2 j) → K x I2) : CI d y as (mm I D) K :=
  (CI.fk ow.1 ha h).use fun x I2 ⟨k0, f⟩ => k x I2 k0 (fun j => (f.2.2.2 l2 rfl j).1)
theorem AR.ow {y : Nat} {as : List PV} {K0 K : Option Nat → IM → DY → Prop} (ow : OW l2 I D) (ha : outL (fun a => a = l2) (dZ D) as) (h : AR d y as (mm I D) (fun x I2 D2 => K0 x I2 D2 ∧ dW D2 l2 = dW D l2)) (k : ∀ x I2 D2, K0 x I2 D2 → OW l2 I2 D2 → (∀ j, I2 l2 j = I l2 j) → K x I2 D2) : AR d y as (mm I D) K :=
  Mt.mono (AR.fk ow.1 ha h) fun _ _ ⟨x, I2, D2, e1, e2, ⟨k0, g⟩, f, _⟩ => ⟨x, I2, D2, e1, e2, k x I2 D2 k0 (ow.next f g) (fun j => (f.2.2.2 l2 rfl j).1)⟩
theorem wask {K : Int32 → IM → DY → Prop} (h : RC τ I D) (wf : WF (tS τ)) (ow : OW l2 I D) (s ex n : Int32) (k : ∀ I2 D2, FrM I I2 → GD D D2 → OW l2 I2 D2 → (∀ j, I2 l2 j = I l2 j) → RC ((S_ask τ s ex n).1) I2 D2 → K ((S_ask τ s ex n).2) I2 D2) : AI (d + 100) 14 [vR (some 45), vI s, vI ex, vI n] (mm I D) K :=
  AI.ow (K0 := fun x I2 D2 => x = (S_ask τ s ex n).2 ∧ FrM I I2 ∧ RC ((S_ask τ s ex n).1) I2 D2) ow (out45 (l := [s, ex, n]) ow.1) (p_ask (d := d) h wf s ex n (fun I2 D2 f g r => ⟨⟨rfl, f, r⟩, g⟩)) (fun x I2 D2 ⟨e, f, r⟩ g o a => by rw [e]; exact k I2 D2 f g o a r)
theorem wbatch {K : Int32 → IM → DY → Prop} (h : RC τ I D) (wf : WF (tS τ)) (ow : OW l2 I D) (k : ∀ I2 D2, FrM I I2 → GD D D2 → OW l2 I2 D2 → (∀ j, I2 l2 j = I l2 j) → RC ((S_batch τ).1) I2 D2 → K ((S_batch τ).2) I2 D2) : AI (d + 100) 63 [vR (some 45)] (mm I D) K :=
  AI.ow (K0 := fun x I2 D2 => x = (S_batch τ).2 ∧ FrM I I2 ∧ RC ((S_batch τ).1) I2 D2) ow (out45 (l := []) ow.1) (p_batch (d := d) h wf (fun I2 D2 f g r => ⟨⟨rfl, f, r⟩, g⟩)) (fun x I2 D2 ⟨e, f, r⟩ g o a => by rw [e]; exact k I2 D2 f g o a r)
theorem wupcast {K : Int32 → IM → DY → Prop} (h : RC τ I D) (wf : WF (tS τ)) (ow : OW l2 I D) (k : ∀ I2 D2, FrM I I2 → GD D D2 → OW l2 I2 D2 → (∀ j, I2 l2 j = I l2 j) → RC ((S_upcast τ).1) I2 D2 → K ((S_upcast τ).2) I2 D2) : AI (d + 100) 73 [vR (some 45)] (mm I D) K :=
  AI.ow (K0 := fun x I2 D2 => x = (S_upcast τ).2 ∧ FrM I I2 ∧ RC ((S_upcast τ).1) I2 D2) ow (out45 (l := []) ow.1) (p_upcast (d := d) h wf (fun I2 D2 f g r => ⟨⟨rfl, f, r⟩, g⟩)) (fun x I2 D2 ⟨e, f, r⟩ g o a => by rw [e]; exact k I2 D2 f g o a r)
theorem wproject {K : Int32 → IM → DY → Prop} (h : RC τ I D) (ow : OW l2 I D) (p : Int32) (k : ∀ I2 D2, FrM I I2 → GD D D2 → OW l2 I2 D2 → (∀ j, I2 l2 j = I l2 j) → RC ((S_project τ p).1) I2 D2 → K ((S_project τ p).2) I2 D2) : AI (d + 100) 109 [vR (some 45), vI p] (mm I D) K :=
  AI.ow (K0 := fun x I2 D2 => x = (S_project τ p).2 ∧ FrM I I2 ∧ RC ((S_project τ p).1) I2 D2) ow (out45 (l := [p]) ow.1) (p_project (d := d) h p (fun I2 D2 f g r => ⟨⟨rfl, f, r⟩, g⟩)) (fun x I2 D2 ⟨e, f, r⟩ g o a => by rw [e]; exact k I2 D2 f g o a r)
theorem wrebuild {K : Int32 → IM → DY → Prop} (h : RC τ I D) (ow : OW l2 I D) (p : Int32) (k : ∀ I2 D2, FrM I I2 → GD D D2 → OW l2 I2 D2 → (∀ j, I2 l2 j = I l2 j) → RC ((S_rebuild τ p).1) I2 D2 → K ((S_rebuild τ p).2) I2 D2) : AI (d + 100) 115 [vR (some 45), vI p] (mm I D) K :=
  AI.ow (K0 := fun x I2 D2 => x = (S_rebuild τ p).2 ∧ FrM I I2 ∧ RC ((S_rebuild τ p).1) I2 D2) ow (out45 (l := [p]) ow.1) (p_rebuild (d := d) h p (fun I2 D2 f g r => ⟨⟨rfl, f, r⟩, g⟩)) (fun x I2 D2 ⟨e, f, r⟩ g o a => by rw [e]; exact k I2 D2 f g o a r)
theorem wswap {K : Int32 → IM → DY → Prop} (h : RC τ I D) (ow : OW l2 I D) (p : Int32) (k : ∀ I2 D2, FrM I I2 → GD D D2 → OW l2 I2 D2 → (∀ j, I2 l2 j = I l2 j) → RC ((S_swap τ p).1) I2 D2 → K ((S_swap τ p).2) I2 D2) : AI (d + 100) 124 [vR (some 45), vI p] (mm I D) K :=
  AI.ow (K0 := fun x I2 D2 => x = (S_swap τ p).2 ∧ FrM I I2 ∧ RC ((S_swap τ p).1) I2 D2) ow (out45 (l := [p]) ow.1) (p_swap (d := d) h p (fun I2 D2 f g r => ⟨⟨rfl, f, r⟩, g⟩)) (fun x I2 D2 ⟨e, f, r⟩ g o a => by rw [e]; exact k I2 D2 f g o a r)
theorem wpolicy {K : Int32 → IM → DY → Prop} (h : RC τ I D) (ow : OW l2 I D) (p : Int32) (k : ∀ I2 D2, FrM I I2 → GD D D2 → OW l2 I2 D2 → (∀ j, I2 l2 j = I l2 j) → RC ((S_policy τ p).1) I2 D2 → K ((S_policy τ p).2) I2 D2) : AI (d + 100) 132 [vR (some 45), vI p] (mm I D) K :=
  AI.ow (K0 := fun x I2 D2 => x = (S_policy τ p).2 ∧ FrM I I2 ∧ RC ((S_policy τ p).1) I2 D2) ow (out45 (l := [p]) ow.1) (p_policy (d := d) h p (fun I2 D2 f g r => ⟨⟨rfl, f, r⟩, g⟩)) (fun x I2 D2 ⟨e, f, r⟩ g o a => by rw [e]; exact k I2 D2 f g o a r)
theorem wlook {K : Int32 → IM → DY → Prop} (h : RC τ I D) (wf : WF (tS τ)) (ow : OW l2 I D) (p w q : Int32) (k : ∀ I2 D2, FrM I I2 → GD D D2 → OW l2 I2 D2 → (∀ j, I2 l2 j = I l2 j) → RC (τ) I2 D2 → K (S_look τ p w q) I2 D2) : AI (d + 100) 125 [vR (some 45), vI p, vI w, vI q] (mm I D) K :=
  AI.ow (K0 := fun x I2 D2 => x = S_look τ p w q ∧ FrM I I2 ∧ RC (τ) I2 D2) ow (out45 (l := [p, w, q]) ow.1) (p_look (d := d) h wf p w q (fun I2 D2 f g r => ⟨⟨rfl, f, r⟩, g⟩)) (fun x I2 D2 ⟨e, f, r⟩ g o a => by rw [e]; exact k I2 D2 f g o a r)
theorem wsnap {K : Int32 → IM → Prop} (h : RC τ I D) (ow : OW l2 I D) (s : Int32) (k : ∀ I2, FrM I I2 → (∀ j, I2 l2 j = I l2 j) → RC ((S_snap τ s).1) I2 D → K ((S_snap τ s).2) I2) : CI (d + 100) 95 [vR (some 45), vI s] (mm I D) K :=
  CI.ow (K0 := fun x I2 => x = (S_snap τ s).2 ∧ FrM I I2 ∧ RC ((S_snap τ s).1) I2 D) ow (out45 (l := [s]) ow.1) (p_snap (d := d) h s (fun I2 f r => ⟨rfl, f, r⟩)) (fun x I2 ⟨e, f, r⟩ a => by rw [e]; exact k I2 f a r)
theorem wevery {K : Int32 → IM → Prop} (h : RC τ I D) (ow : OW l2 I D) (n : Int32) (k : ∀ I2, FrM I I2 → (∀ j, I2 l2 j = I l2 j) → RC ((S_every τ n).1) I2 D → K ((S_every τ n).2) I2) : CI (d + 100) 98 [vR (some 45), vI n] (mm I D) K :=
  CI.ow (K0 := fun x I2 => x = (S_every τ n).2 ∧ FrM I I2 ∧ RC ((S_every τ n).1) I2 D) ow (out45 (l := [n]) ow.1) (p_every (d := d) h n (fun I2 f r => ⟨rfl, f, r⟩)) (fun x I2 ⟨e, f, r⟩ a => by rw [e]; exact k I2 f a r)
theorem wdeliver {K : Int32 → IM → Prop} (h : RC τ I D) (wf : WF (tS τ)) (ow : OW l2 I D) (p w f n : Int32) (k : ∀ I2, FrM I I2 → (∀ j, I2 l2 j = I l2 j) → RC ((S_deliver τ p w f n).1) I2 D → K ((S_deliver τ p w f n).2) I2) : CI (d + 100) 117 [vR (some 45), vI p, vI w, vI f, vI n] (mm I D) K :=
  CI.ow (K0 := fun x I2 => x = (S_deliver τ p w f n).2 ∧ FrM I I2 ∧ RC ((S_deliver τ p w f n).1) I2 D) ow (out45 (l := [p, w, f, n]) ow.1) (p_deliver (d := d) h wf p w f n (fun I2 f r => ⟨rfl, f, r⟩)) (fun x I2 ⟨e, f, r⟩ a => by rw [e]; exact k I2 f a r)
theorem wrun {K : Int32 → IM → Prop} (h : RC τ I D) (wf : WF (tS τ)) (ow : OW l2 I D) (p n : Int32) (k : ∀ I2, FrM I I2 → (∀ j, I2 l2 j = I l2 j) → RC ((S_run τ p n).1) I2 D → K ((S_run τ p n).2) I2) : CI (d + 100) 135 [vR (some 45), vI p, vI n] (mm I D) K :=
  CI.ow (K0 := fun x I2 => x = (S_run τ p n).2 ∧ FrM I I2 ∧ RC ((S_run τ p n).1) I2 D) ow (out45 (l := [p, n]) ow.1) (p_run (d := d) h wf p n (fun I2 f r => ⟨rfl, f, r⟩)) (fun x I2 ⟨e, f, r⟩ a => by rw [e]; exact k I2 f a r)
theorem wrow {K : Int32 → IM → Prop} (h : RC τ I D) (ow : OW l2 I D) (p w q : Int32) (k : ∀ I2, FrM I I2 → (∀ j, I2 l2 j = I l2 j) → RC (τ) I2 D → K (S_row τ p w q) I2) : CI (d + 100) 131 [vR (some 45), vI p, vI w, vI q] (mm I D) K :=
  CI.ow (K0 := fun x I2 => x = S_row τ p w q ∧ FrM I I2 ∧ RC (τ) I2 D) ow (out45 (l := [p, w, q]) ow.1) (p_row (d := d) h p w q (fun I2 f r => ⟨rfl, f, r⟩)) (fun x I2 ⟨e, f, r⟩ a => by rw [e]; exact k I2 f a r)
theorem wled {K : Int32 → IM → Prop} (h : RC τ I D) (ow : OW l2 I D) (w : Int32) (k : ∀ I2, FrM I I2 → (∀ j, I2 l2 j = I l2 j) → RC (τ) I2 D → K (S_led τ w) I2) : CI (d + 100) 161 [vR (some 45), vI w] (mm I D) K :=
  CI.ow (K0 := fun x I2 => x = S_led τ w ∧ FrM I I2 ∧ RC (τ) I2 D) ow (out45 (l := [w]) ow.1) (p_led (d := d) h w (fun I2 f r => ⟨rfl, f, r⟩)) (fun x I2 ⟨e, f, r⟩ a => by rw [e]; exact k I2 f a r)
theorem wtext {K : Option Nat → IM → DY → Prop} {v : Nat} (ow : OW l2 I D) (hv : v < 16777216) (r : RC τ I D) (hw : LW I) (k : ∀ I2 D2 s2 b2, CHX XN I D I2 D2 15 1448 → OW l2 I2 D2 → STR I2 D2 s2 b2 (texV v) → K (some s2) I2 D2) : AR (d + 7) 200 [vI (z32 (v : Int))] (mm I D) K :=
  AR.ow (K0 := fun x I2 D2 => ∃ s2 b2, x = some s2 ∧ CHX XN I D I2 D2 15 1448 ∧ STR I2 D2 s2 b2 (texV v)) ow (outL.cons trivial outL.nil) (text_ok (d := d) hv r.1 r.2.1 hw (fun I2 D2 s2 b2 c g => ⟨⟨s2, b2, rfl, c, g⟩, (c.1.2.2.2 l2 ow.z.2).2.2.1⟩)) (fun x I2 D2 ⟨s2, b2, e, c, g⟩ o _ => by rw [e]; exact k I2 D2 s2 b2 c o g)
theorem wfold {K : Int32 → IM → DY → Prop} (r : RC τ I D) (wf : WF (tS τ)) (ow : OW l2 I D) (hK : ∀ I2 D2, FrM I I2 → dZ D2 = dZ D + 9 → dL D2 = dL D + 48 → OW l2 I2 D2 → (∀ j, I2 l2 j = I l2 j) → RC τ I2 D2 → K 1 I2 D2) : AI (d + 102) 203 [vR (some 45)] (mm I D) K :=
  (AI.fk ow.1 (out45 (l := []) ow.1) (isFolded_ok (d := d) (K := fun x I2 D2 => x = 1 ∧ FrM I I2 ∧ dZ D2 = dZ D + 9 ∧ dL D2 = dL D + 48 ∧ (∀ a, a < dZ D → dW D2 a = dW D a) ∧ RC τ I2 D2) r wf ow.1.no (fun I2 D2 f z l w r2 => ⟨rfl, f, z, l, w, r2⟩))).use fun x I2 D2 ⟨⟨e, f, z, l, w, r2⟩, fk⟩ => by
    rw [e]
    exact hK I2 D2 f z l (ow.next fk (w l2 ow.z.2)) (fun j => (fk.2.2.2 l2 rfl j).1) r2
/-- the law writes an answer -/
theorem RC.ans {k : Nat} {v : Int32} (h : RC τ I D) (ow : OW l2 I D) : RC τ (up2 I l2 k v) D := h.own (fun q j hq => up2_ne (fun e => hq ⟨by rw [e]; exact ow.z.1, by rw [e]; exact ow.2.2.2.1⟩))
end
