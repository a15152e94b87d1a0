/-! The arms. -/
theorem LIV.chx {l2 h : Nat} {τ : ST} {I I2 : IM} {D D2 : DY} {c s : Nat} (L : LIV l2 h τ I D) (hc : CHX XN I D I2 D2 c s) (ow : OW l2 I2 D2) : LIV l2 h τ I2 D2 := by
  obtain ⟨r, wt, t, lw, o, a, sp⟩ := L
  exact ⟨r.chx hc, wt, t, lw.chx r.1 hc, ow, fun k h1 h2 => (hc.2 l2 k o.z.2 id).trans (a k h1 h2), sp⟩
theorem TPF.l2 {l2 : Nat} {I I2 : IM} {D : DY} (h : TPF I I2) (ow : OW l2 I D) (j : Nat) : I2 l2 j = I l2 j := h _ _ (by have := ow.z.1; omega) (by have := ow.z.1; omega)
section
variable {d l2 h : Nat} {I : IM} {D : DY} {Q : Option PV → PM → Prop} {l4 : Int32} {v w n7 : Nat} {σ : SS} {κ : Option SS} {w8 w9 : PV}
/-- where an arm ends -/
def ENDS (Q : Option PV → PM → Prop) (d l2 : Nat) (l4 : Int32) (v w n7 : Nat) (D : DY) (κ : Option SS) : Prop := ∀ h I2 D2 σ2 w8 w9, LIV l2 h ([], σ2, κ) I2 D2 → dZ D2 ≤ dZ D + 300 → dL D2 ≤ dL D + 14000 → Wp GG (d + 104) 268 578 [vR (some 0), vR (some 45), vR (some l2), vI (z32 (h : Int)), vI l4, vI (z32 (v : Int)), vI (z32 (w : Int)), vI (z32 (n7 : Int)), w8, w9] [] (mm I2 D2) Q
theorem shm {m : Nat} (w k : Nat) (hw : w < 16777216) (hk : k < 24) (hm : m < 1000) (h0 : 0 < m) : (z32 (w : Int) >>> z32 (k : Int)) - (z32 (w : Int) >>> z32 (k : Int)) / z32 (m : Int) * z32 (m : Int) = z32 ((w / 2 ^ k % m : Nat) : Int) := by
  have := Nat.div_le_self w (2 ^ k)
  rw [z32_shr (by omega) (by omega), z32_mod (by omega) (by omega) h0]
theorem arm_128 (L : LIV l2 h ([], σ, κ) I D) (hv : v < 16777216) (hw : w < 16777216) (h7 : n7 = (zL σ).length) (k : ENDS Q d l2 l4 v w n7 D κ) :
    Wp GG (d + 104) 268 128 [vR (some 0), vR (some 45), vR (some l2), vI (z32 (h : Int)), vI l4, vI (z32 (v : Int)), vI (z32 (w : Int)), vI (z32 (n7 : Int)), w8, w9] [] (mm I D) Q := by
  have ow := L.2.2.2.2.1
  refine s_law_128 _ _ _ _ _ _ _ _ (wtext (d := d + 96) ow hv L.1 L.2.2.2.1 (fun I2 D2 s2 b2 c2 o2 g2 => ?_))
  have L2 := L.chx c2 o2
  obtain ⟨r, wt, t, lw, -, a, sp⟩ := L2
  refine tell_ok (d := d + 2) g2 r (fun I3 f3 r3 => ?_)
  have tl := texV_len v
  have a3 : ∀ j, 1 ≤ j → j < 6 → I3 l2 j = zA σ j := fun j b c => (f3.l2 o2 j).trans (a j b c)
  have kk : ∀ I4 D4 σ2 w8 w9, LIV l2 h ([], σ2, κ) I4 D4 → dZ D4 ≤ dZ D2 + 200 → dL D4 ≤ dL D2 + 8000 → Wp GG (d + 104) 268 578 [vR (some 0), vR (some 45), vR (some l2), vI (z32 (h : Int)), vI l4, vI (z32 (v : Int)), vI (z32 (w : Int)), vI (z32 (n7 : Int)), w8, w9] [] (mm I4 D4) Q := fun I4 D4 σ2 w8 w9 L4 z1 z2 => by
    have := c2.1.2.1
    have := c2.1.2.2.1
    exact k h I4 D4 σ2 w8 w9 L4 (by omega) (by omega)
  refine brP_i (fun _ => e_streamOf hv ?_) (fun q => absurd (by decide) q)
  rw [show (3 : Int32) = z32 ((3 : Nat) : Int) from rfl, show (6 : Int32) = z32 ((6 : Nat) : Int) from rfl, show (8 : Int32) = z32 ((8 : Nat) : Int) from rfl, show (5 : Int32) = z32 ((5 : Nat) : Int) from rfl, shm (m := 6) w 3 hw (by omega) (by omega) (by omega), shm (m := 5) w 8 hw (by omega) (by omega) (by omega)]
  refine brP_i (fun _ => ?_) (fun _ => ?_)
  · exact a_178 (d := d) (T := texV v) (by omega) (by omega) (by decide) (par_A v) (by omega) r3 wt (lw.fr f3.m) o2.i a3 sp h7 kk
  · refine a_178 (d := d) (T := texV v) (by omega) (by omega) ?_ (par_A v) (by omega) r3 wt (lw.fr f3.m) o2.i a3 sp h7 kk
    show ¬ z32 _ < z32 (-1)
    rw [z32_lt (by omega) (by omega) (by omega) (by omega)]
    omega
theorem arm_280 (L : LIV l2 h ([], σ, κ) I D) (hw : w < 16777216) (k : ENDS Q d l2 l4 v w n7 D κ) :
    Wp GG (d + 104) 268 280 [vR (some 0), vR (some 45), vR (some l2), vI (z32 (h : Int)), vI l4, vI (z32 (v : Int)), vI (z32 (w : Int)), vI (z32 (n7 : Int)), w8, w9] [] (mm I D) Q := by
  obtain ⟨r, wt, t, lw, ow, a, sp⟩ := L
  have hl : (zL σ).length ≤ 240 := r.L.2.1
  refine s_law_280 _ _ _ _ _ _ _ _ ?_
  rw [show (3 : Int32) = z32 ((3 : Nat) : Int) from rfl, show (5 : Int32) = z32 ((5 : Nat) : Int) from rfl, show (4 : Int32) = z32 ((4 : Nat) : Int) from rfl, shm (m := 3) w 3 hw (by omega) (by omega) (by omega), shm (m := 4) w 5 hw (by omega) (by omega) (by omega)]
  have W1 := w_snap wt (z32 ((w / 2 ^ 3 % 3 : Nat) : Int))
  have E1 : S_snap ([], σ, κ) (z32 ((w / 2 ^ 3 % 3 : Nat) : Int)) = (([], wN σ (addS (zN σ) (w / 2 ^ 3 % 3) (vrS (zL σ) (w / 2 ^ 3 % 3)) (eraC (zC σ))), κ), z32 (vrS (zL σ) (w / 2 ^ 3 % 3) : Int)) := by
    unfold S_snap
    have hr : (0 : Int32) ≤ z32 ((w / 2 ^ 3 % 3 : Nat) : Int) ∧ z32 ((w / 2 ^ 3 % 3 : Nat) : Int) ≤ 7 := rngN (a := 0) (c := 7) (by omega) (by omega) (by omega)
    rw [if_pos hr, aN_z (by omega)]
  have hv2 : vrS (zL σ) (w / 2 ^ 3 % 3) ≤ 240 := vr240 (τ := ([], σ, κ)) hl
  refine wsnap (d := d + 3) r ow _ (fun I2 f2 a2 r2 => ?_)
  rw [E1] at W1 r2 ⊢
  dsimp only at W1 r2 ⊢
  refine brP_i (fun q => absurd q ?_) (fun _ => ?_)
  · show ¬ z32 _ < z32 0
    rw [z32_lt (by omega) (by omega) (by omega) (by omega)]
    omega
  have W2 := w_every W1 (z32 ((w / 2 ^ 5 % 4 : Nat) : Int))
  have E2 : S_every ([], wN σ (addS (zN σ) (w / 2 ^ 3 % 3) (vrS (zL σ) (w / 2 ^ 3 % 3)) (eraC (zC σ))), κ) (z32 ((w / 2 ^ 5 % 4 : Nat) : Int)) = (([], wV (wN σ (addS (zN σ) (w / 2 ^ 3 % 3) (vrS (zL σ) (w / 2 ^ 3 % 3)) (eraC (zC σ)))) (w / 2 ^ 5 % 4), κ), z32 (zV σ : Int)) := by
    unfold S_every
    have hr : (0 : Int32) ≤ z32 ((w / 2 ^ 5 % 4 : Nat) : Int) ∧ z32 ((w / 2 ^ 5 % 4 : Nat) : Int) ≤ 20 := rngN (a := 0) (c := 20) (by omega) (by omega) (by omega)
    rw [if_pos hr, aN_z (by omega)]
    rfl
  have hz : zV σ ≤ 20 := wt.1.2.2.1
  refine wevery (d := d + 3) r2 (ow.i (I2 := I2)) _ (fun I3 f3 a3 r3 => ?_)
  rw [E2] at W2 r3 ⊢
  dsimp only at W2 r3 ⊢
  refine brP_i (fun _ => ?_) (fun q => absurd ?_ q)
  · exact k h I3 D _ _ _ ⟨r3, W2, rfl, (lw.fr f2).fr f3, ow.i, fun j b c => (a3 j).trans ((a2 j).trans (a j b c)), sp.same rfl rfl rfl rfl⟩ (by omega) (by omega)
  · show z32 0 ≤ z32 _
    rw [z32_le (by omega) (by omega) (by omega) (by omega)]
    omega
theorem arm_317 (L : LIV l2 h ([], σ, κ) I D) (hw : w < 16777216) (h7 : n7 = (zL σ).length) (k : ENDS Q d l2 l4 v w n7 D κ) :
    Wp GG (d + 104) 268 317 [vR (some 0), vR (some 45), vR (some l2), vI (z32 (h : Int)), vI l4, vI (z32 (v : Int)), vI (z32 (w : Int)), vI (z32 (n7 : Int)), w8, w9] [] (mm I D) Q := by
  obtain ⟨r, wt, t, lw, ow, a, sp⟩ := L
  have hl : (zL σ).length ≤ 240 := r.L.2.1
  refine s_law_317 _ _ _ _ _ _ _ _ ?_
  have e2 : z32 (n7 : Int) + 2 = z32 ((n7 + 2 : Nat) : Int) := z32_add (n7 : Int) 2
  have e1 : ∀ x : Nat, (1 : Int32) + z32 (x : Int) = z32 ((1 + x : Nat) : Int) := fun x => z32_add 1 (x : Int)
  rw [e2, show (3 : Int32) = z32 ((3 : Nat) : Int) from rfl, show (4 : Int32) = z32 ((4 : Nat) : Int) from rfl, show (2 : Int32) = z32 ((2 : Nat) : Int) from rfl, show (9 : Int32) = z32 ((9 : Nat) : Int) from rfl, show (20 : Int32) = z32 ((20 : Nat) : Int) from rfl, shm (m := 2) w 3 hw (by omega) (by omega) (by omega), shm (m := n7 + 2) w 4 hw (by omega) (by omega) (by omega), shm (m := 20) w 9 hw (by omega) (by omega) (by omega), e1, e1]
  have m2 : w / 2 ^ 4 % (n7 + 2) < n7 + 2 := Nat.mod_lt _ (by omega)
  obtain ⟨c, c1, c2, σ2, c3, c4, c5, c6⟩ := spc_dlv (T := []) (κ := κ) sp (p := w / 2 ^ 3 % 2) (n := 1 + w / 2 ^ 9 % 20) (f := 1 + w / 2 ^ 4 % (n7 + 2)) (by omega) (by omega) ⟨by omega, by omega⟩
  have W := w_deliver wt (z32 ((w / 2 ^ 3 % 2 : Nat) : Int)) 0 (z32 ((1 + w / 2 ^ 4 % (n7 + 2) : Nat) : Int)) (z32 ((1 + w / 2 ^ 9 % 20 : Nat) : Int))
  refine tsP_i ?_ (wdeliver (d := d + 3) r wt.1 ow _ _ _ _ (fun I2 f2 a2 r2 => ?_))
  · show ¬ z32 _ = z32 0
    rw [z32_inj (by omega) (by omega) (by omega) (by omega)]
    omega
  rw [c3] at W r2
  rw [c2]
  refine brP_i (fun _ => ?_) (fun q => absurd ?_ q)
  · have e3 : z32 (h : Int) + z32 (c : Int) = z32 ((h + c : Nat) : Int) := z32_add _ _
    rw [e3]
    exact k (h + c) I2 D σ2 _ _ ⟨r2, W, rfl, lw.fr f2, ow.i, fun j b c => by show I2 l2 j = zA σ2 j; rw [c6]; exact (a2 j).trans (a j b c), c4⟩ (by omega) (by omega)
  · show z32 0 ≤ z32 _
    rw [z32_le (by omega) (by omega) (by omega) (by omega)]
    omega
theorem arm_376 (L : LIV l2 h ([], σ, κ) I D) (hw : w < 16777216) (h7 : n7 = (zL σ).length) (k : ENDS Q d l2 l4 v w n7 D κ) :
    Wp GG (d + 104) 268 376 [vR (some 0), vR (some 45), vR (some l2), vI (z32 (h : Int)), vI l4, vI (z32 (v : Int)), vI (z32 (w : Int)), vI (z32 (n7 : Int)), w8, w9] [] (mm I D) Q := by
  obtain ⟨r, wt, t, lw, ow, a, sp⟩ := L
  have hl : (zL σ).length ≤ 240 := r.L.2.1
  refine s_law_376 _ _ _ _ _ _ _ _ ?_
  have e1 : ∀ x : Nat, (1 : Int32) + z32 (x : Int) = z32 ((1 + x : Nat) : Int) := fun x => z32_add 1 (x : Int)
  rw [show (3 : Int32) = z32 ((3 : Nat) : Int) from rfl, show (4 : Int32) = z32 ((4 : Nat) : Int) from rfl, shm (m := 4) w 3 hw (by omega) (by omega) (by omega), e1]
  obtain ⟨c, c1, c2, σ2, c3, c4, c5, c6⟩ := spc_run (T := []) (κ := κ) sp (n := 1 + w / 2 ^ 3 % 4) (by omega)
  have W := w_run wt (fun p x hp hx => by
    obtain ⟨x0, x1, -, -, -, -, -, -, g1, -⟩ := sp
    exact (g1 p x hp hx).1) 0 (z32 ((1 + w / 2 ^ 3 % 4 : Nat) : Int))
  refine wrun (d := d + 3) r wt.1 ow _ _ (fun I2 f2 a2 r2 => ?_)
  rw [c3] at W r2
  rw [c2]
  have hl2 : (zL σ2).length ≤ 240 := r2.L.2.1
  have c5 : (zL σ2).length ≤ (zL σ).length + c := c5
  refine brP_i (fun q => absurd q ?_) (fun _ => q_count0 (d := d + 3) r2 (brP_i (fun _ => ?_) (fun q => absurd ?_ q)))
  · show ¬ z32 _ < z32 0
    rw [z32_lt (by omega) (by omega) (by omega) (by omega)]
    omega
  · exact k h I2 D σ2 _ _ ⟨r2, W, rfl, lw.fr f2, ow.i, fun j b c => by show I2 l2 j = zA σ2 j; rw [c6]; exact (a2 j).trans (a j b c), c4⟩ (by omega) (by omega)
  · show z32 ((zL σ2).length : Int) ≤ z32 (n7 : Int) + z32 (c : Int)
    rw [z32_add, z32_le (by omega) (by omega) (by omega) (by omega)]
    omega
end
