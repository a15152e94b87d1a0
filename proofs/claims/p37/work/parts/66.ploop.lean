/-! The law's loop. -/
theorem and24 (x : Int32) : ∃ v : Nat, v < 16777216 ∧ x &&& 16777215 = z32 (v : Int) := by
  have e : (x &&& 16777215).toBitVec = x.toBitVec &&& 16777215#32 := rfl
  have hb : (x &&& 16777215).toBitVec.toNat < 16777216 := by
    rw [e, BitVec.toNat_and]
    exact Nat.lt_succ_of_le Nat.and_le_right
  refine ⟨(x &&& 16777215).toBitVec.toNat, hb, ?_⟩
  refine Int32.toInt_inj.mp ?_
  rw [z32_toInt (by omega) (by omega), ← Int32.toInt_toBitVec, BitVec.toInt_eq_toNat_of_lt (by omega)]
section
variable {d l2 h : Nat} {I : IM} {D : DY} {Q : Option PV → PM → Prop} {σ : SS} {κ : Option SS} {τ : ST}
theorem e_cell {K : Int32 → IM → Prop} {i : Nat} (hn : dN D 0 < 2147483648) (hi : i ≤ 100) (k : ∀ v : Nat, v < 16777216 → K (z32 (v : Int)) I) : CI d 192 [vR (some 0), vI (z32 (i : Int))] (mm I D) K := by
  have k0 : pKd (mm I D) 0 = 19 := rfl
  have e0 : Int32.ofNat (pLn (mm I D) 0) = z32 (dN D 0 : Int) := rfl
  refine s_L_cell _ _ (tsP_i (by rw [k0]; decide) ?_)
  rw [e0]
  refine brP_i (fun q => qI_i ?_) (fun q => tsP_i k0 (tsP_i ?_ (qI_i ?_)))
  · have e1 : z32 (i : Int) * 9151 = z32 ((i * 9151 : Nat) : Int) := z32_mul (i : Int) 9151
    rw [e1]
    exact k _ (by omega)
  · rw [z32_le (by omega) (by omega) (by omega) (by omega)] at q
    refine ⟨?_, ?_⟩
    · rw [z32_toInt (by omega) (by omega)]
      omega
    · rw [z32_toInt (by omega) (by omega)]
      show (i : Int) < (dN D 0 : Int)
      omega
  · obtain ⟨v, hv, e⟩ := and24 (I 0 (ixN (z32 (i : Int))))
    rw [e]
    exact k v hv
theorem look_0 {p w : Nat} {x : PJ} (hp : p < 4) (hw : w < 2) (hx : zP (tS τ) w p = some x) : S_look τ (z32 (p : Int)) (z32 (w : Int)) 0 = z32 (jP x : Int) := by
  have hp3 : (0 : Int32) ≤ z32 (p : Int) ∧ z32 (p : Int) ≤ 3 := rngN (a := 0) (c := 3) (by omega) (by omega) (by omega)
  have hw3 : (0 : Int32) ≤ z32 (w : Int) ∧ z32 (w : Int) ≤ 1 := rngN (a := 0) (c := 1) (by omega) (by omega) (by omega)
  unfold S_look
  rw [if_pos ⟨hp3, hw3, by decide, by decide⟩, aN_z (n := p) (by omega), aN_z (n := w) (by omega), hx]
  dsimp only
  rw [if_pos rfl]
theorem l_578 {l4 : Int32} {v w n7 : Nat} {w8 w9 : PV} (L : LIV l2 h ([], σ, κ) I D) (hh : h ≤ 480) (k : ∀ I2 D2 w5 w6 w7 w8 w9, LIV l2 h ([], σ, κ) I2 D2 → dZ D2 ≤ dZ D + 409 → dL D2 ≤ dL D + 16048 → Wp GG (d + 104) 268 86 [vR (some 0), vR (some 45), vR (some l2), vI (z32 (h : Int)), vI (l4 + 1), w5, w6, w7, w8, w9] [] (mm I2 D2) Q) :
    Wp GG (d + 104) 268 578 [vR (some 0), vR (some 45), vR (some l2), vI (z32 (h : Int)), vI l4, vI (z32 (v : Int)), vI (z32 (w : Int)), vI (z32 (n7 : Int)), w8, w9] [] (mm I D) Q := by
  obtain ⟨r, wt, t, lw, ow, a, sp⟩ := L
  have hl : (zL σ).length ≤ 240 := r.L.2.1
  obtain ⟨x0, x1, ⟨p0, p1⟩, -, -, -, -, ⟨z4, zh⟩, -⟩ := id sp
  have p0 : zP σ 0 0 = some x0 := p0
  have p1 : zP σ 0 1 = some x1 := p1
  refine s_law_578 _ _ _ _ _ _ _ _ (wfold (d := d + 1) r wt.1 ow (fun I1 D1 f1 z1 l1 o1 a1 r1 => brP_i (fun q => absurd q (by decide)) (fun _ => ?_)))
  refine s_law_585 _ _ _ _ _ _ _ _ (wled (d := d + 3) r1 o1 _ (fun I2 f2 a2 r2 => ?_))
  have E4 : S_led ([], σ, κ) 4 = z32 (h : Int) := by
    unfold S_led
    rw [if_pos (by decide)]
    exact z4
  rw [E4]
  refine brP_i (fun q => absurd rfl q) (fun _ => ?_)
  refine wlook (d := d + 3) r2 wt.1 (o1.i (I2 := I2)) _ _ _ (fun I3 D3 f3 g3 o3 a3 r3 => ?_)
  refine wlook (d := d + 3) r3 wt.1 o3 _ _ _ (fun I4 D4 f4 g4 o4 a4 r4 => ?_)
  have e0 : S_look ([], σ, κ) 0 0 0 = z32 (jP x0 : Int) := look_0 (p := 0) (w := 0) (by omega) (by omega) p0
  have e1 : S_look ([], σ, κ) 1 0 0 = z32 (jP x1 : Int) := look_0 (p := 1) (w := 0) (by omega) (by omega) p1
  rw [e0, e1, z32_add]
  refine brP_i (fun _ => ?_) (fun q => absurd ?_ q)
  · have := g3.2.1
    have := g3.2.2.1
    have := g4.2.1
    have := g4.2.2.1
    exact k I4 D4 _ _ _ _ _ ⟨r4, wt, t, (((lw.fr f1).fr f2).fr f3).fr f4, o4, fun j b c => (a4 j).trans ((a3 j).trans ((a2 j).trans ((a1 j).trans (a j b c)))), sp⟩ (by omega) (by omega)
  · rw [← zh]
    rfl
set_option maxRecDepth 100000 in
theorem budZ {a b c z i : Nat} (h1 : a ≤ z + 800 * i) (h2 : b ≤ a + 300) (h3 : c ≤ b + 409) : c ≤ z + 800 * (i + 1) := by
  rw [Nat.mul_succ]
  generalize 800 * i = q at h1 ⊢
  omega
set_option maxRecDepth 100000 in
theorem budL {a b c z i : Nat} (h1 : a ≤ z + 32000 * i) (h2 : b ≤ a + 14000) (h3 : c ≤ b + 16048) : c ≤ z + 32000 * (i + 1) := by
  rw [Nat.mul_succ]
  generalize 32000 * i = q at h1 ⊢
  omega
/-- what the loop starts from, and where it ends -/
theorem l_loop {κ : Option SS} {Z S : Nat} (k : ∀ h σ I D l4 w5 w6 w7 w8 w9, LIV l2 h ([], σ, κ) I D → dZ D ≤ Z + 800 * 30 → dL D ≤ S + 32000 * 30 → Wp GG (d + 104) 268 621 [vR (some 0), vR (some 45), vR (some l2), vI (z32 (h : Int)), vI l4, w5, w6, w7, w8, w9] [] (mm I D) Q) : ∀ (g i : Nat), i + g = 30 → ∀ h σ I D w5 w6 w7 w8 w9, LIV l2 h ([], σ, κ) I D → dZ D ≤ Z + 800 * i → dL D ≤ S + 32000 * i →
    Wp GG (d + 104) 268 86 [vR (some 0), vR (some 45), vR (some l2), vI (z32 (h : Int)), vI (z32 (i : Int)), w5, w6, w7, w8, w9] [] (mm I D) Q := by
  intro g
  induction g with
  | zero =>
    intro i hi h σ I D w5 w6 w7 w8 w9 L b1 b2
    obtain rfl : i = 30 := by omega
    exact s_law_86 _ _ _ _ _ _ _ _ (brP_i (fun _ => k h σ I D _ _ _ _ _ _ L b1 b2) (fun q => absurd (by decide) q))
  | succ g ih =>
    intro i hi h σ I D w5 w6 w7 w8 w9 L b1 b2
    have hn := L.2.2.2.2.1.2.2.2.2
    have hl : (zL σ).length ≤ 240 := RC.L L.1 |>.2.1
    refine s_law_86 _ _ _ _ _ _ _ _ (brP_i (fun q => absurd q ?_) (fun _ => ?_))
    · show ¬ z32 30 ≤ z32 (i : Int)
      rw [z32_le (by omega) (by omega) (by omega) (by omega)]
      omega
    refine s_law_93 _ _ _ _ _ _ _ _ (e_cell hn (by omega) (fun v hv => ?_))
    have e30 : (30 : Int32) + z32 (i : Int) = z32 ((30 + i : Nat) : Int) := z32_add 30 (i : Int)
    rw [e30]
    refine e_cell hn (by omega) (fun w hw => ?_)
    refine arm_112 (d := d) L hv hw (fun h2 I2 D2 σ2 w8 w9 L2 c1 c2 => ?_)
    have hh : h2 ≤ 480 := by
      obtain ⟨r2, -, -, -, -, -, x0, x1, -, -, -, -, ⟨j0, j1⟩, ⟨-, zh⟩, -⟩ := L2
      have hl2 : (zL σ2).length ≤ 240 := RC.L r2 |>.2.1
      have j0 : jP x0 ≤ (zL σ2).length := j0
      have j1 : jP x1 ≤ (zL σ2).length := j1
      omega
    refine l_578 (d := d) L2 hh (fun I3 D3 w5 w6 w7 w8 w9 L3 c3 c4 => ?_)
    rw [z32_s]
    exact ih (i + 1) (by omega) h2 σ2 I3 D3 _ _ _ _ _ L3 (budZ b1 c1 c3) (budL b2 c2 c4)
end
