/-! The rebuilt projection; the rows by kind. -/
section
variable {d : Nat} {Q : Option PV → PM → Prop} {κ : Option SS} {x0 x1 : PJ}
theorem z_810 {I : IM} {D : DY} {σ : SS} {y : PJ} {l2 l4 : Option Nat} {l3 : Int32} {w6 w7 w8 w9 : PV} (r : RC ([], σ, κ) I D) (wt : WT ([], σ, κ)) (e : E01 σ x0 x1) (h1 : zP σ 1 0 = some y) (hy : y = truV (zC σ) (zL σ) (jP x0) 1 (newJ x0))
    (k : ∀ I2 D2, dZ D2 ≤ dZ D + 800 → dL D2 ≤ dL D + 32000 → Q (some (vI 1)) (mm I2 D2)) :
    Wp GG (d + 104) 268 810 [vR (some 0), vR (some 45), vR l2, vI l3, vR l4, vI (z32 (jP x0 : Int)), w6, w7, w8, w9] [] (mm I D) Q := by
  obtain ⟨⟨a0, a1⟩, b, c, ⟨p0, p1⟩, q0, q1⟩ := e
  obtain ⟨t1, t2, t3, t4⟩ := tru_of (C := zC σ) (L := zL σ) (x := x0) (m := jP x0) p0.1 q0
  rw [← hy] at t1 t2 t3 t4
  have hK : ∀ e ∈ (zL σ).take (jP x0), eS e < 8 := fun e he => (wt.1.1 e (List.mem_of_mem_take he)).1
  refine s_law_810 _ _ _ _ _ _ _ _ ?_
  exact z_816 (d := d) (I0 := I) a0 h1 (same_keys p0 t3 t4) (fun I2 r2 => z_858 (d := d) r2 wt a0 h1 hy ⟨key8 p0 b.2.2 hK, key8 t3 (t4.2.2.1.trans b.2.2) hK⟩ t1 t2 k) 8 0 (by omega) I r
theorem z_771 {I : IM} {D : DY} {σ : SS} {l2 l4 : Option Nat} {l3 l5 : Int32} {w6 w7 w8 w9 : PV} (r : RC ([], σ, κ) I D) (wt : WT ([], σ, κ)) (e : E01 σ x0 x1)
    (k : ∀ I2 D2, dZ D2 ≤ dZ D + 1200 → dL D2 ≤ dL D + 48000 → Q (some (vI 1)) (mm I2 D2)) :
    Wp GG (d + 104) 268 771 [vR (some 0), vR (some 45), vR l2, vI l3, vR l4, vI l5, w6, w7, w8, w9] [] (mm I D) Q := by
  have a0 := e.1.1
  have q0 := e.2.2.2.2.1
  have pI := e.2.2.2.1.1
  have hl : (zL σ).length ≤ 240 := RC.L r |>.2.1
  refine s_law_771 _ _ _ _ _ _ _ _ (p_look (d := d + 3) r wt.1 _ _ _ (fun I1 D1 f1 g1 r1 => ?_))
  have e0 : S_look ([], σ, κ) 0 0 0 = z32 (jP x0 : Int) := look_0 (τ := ([], σ, κ)) (p := 0) (w := 0) (by omega) (by omega) a0
  rw [e0]
  have E : S_rebuild ([], σ, κ) 0 = (([], setPJ σ 1 0 (some (newJ x0)), κ), 1) := by
    unfold S_rebuild
    rw [if_pos (by decide)]
    show (match zP σ 0 0 with
      | none => _
      | some x => _) = _
    rw [a0]
    dsimp only
    rw [if_pos (show List.length (tT ([], σ, κ)) = 0 from rfl)]
    rfl
  have W := w_rebuild wt 0
  refine s_law_780 _ _ _ _ _ _ _ _ (p_rebuild (d := d + 3) r1 _ (fun I2 D2 f2 g2 r2 => ?_))
  rw [E] at W r2 ⊢
  dsimp only at W r2 ⊢
  have z1 := g1.2.1
  have z2 := g2.2.1
  have z3 := g1.2.2.1
  have z4 := g2.2.2.1
  have kk : ∀ I3 D3, dZ D3 ≤ dZ D2 + 800 → dL D3 ≤ dL D2 + 32000 → Q (some (vI 1)) (mm I3 D3) := fun I3 D3 a b => k I3 D3 (by omega) (by omega)
  refine brP_i (fun q => absurd rfl q) (fun _ => brP_i (fun q => ?_) (fun q => ?_))
  · have q : z32 (jP x0 : Int) ≤ z32 0 := q
    rw [z32_le (by omega) (by omega) (by omega) (by omega)] at q
    have m0 : jP x0 = 0 := by omega
    refine z_810 (d := d) (σ := setPJ σ 1 0 (some (newJ x0))) (y := newJ x0) r2 W e rfl ?_ kk
    rw [m0]
    rfl
  · have q : ¬ z32 (jP x0 : Int) ≤ z32 0 := q
    rw [z32_le (by omega) (by omega) (by omega) (by omega)] at q
    have E2 : S_deliver ([], setPJ σ 1 0 (some (newJ x0)), κ) 0 1 1 (z32 (jP x0 : Int)) = _ := dlv_eq (T := []) (κ := κ) (σ := setPJ σ 1 0 (some (newJ x0))) (p := 0) (n := jP x0) (f := 1) (x := newJ x0) (by omega) (by omega) (by omega) 1 (by omega) rfl
    obtain ⟨d1, d2⟩ := dlv_all (C := zC σ) (L := zL σ) (x := x0) (D := zD σ) (n := jP x0) pI.1
    rw [Nat.min_eq_left q0] at d1 d2
    have W2 := w_deliver W 0 1 1 (z32 (jP x0 : Int))
    refine s_law_794 _ _ _ _ _ _ _ _ (p_deliver (d := d + 3) r2 W.1 _ _ _ _ (fun I3 f3 r3 => ?_))
    rw [E2] at W2 r3 ⊢
    dsimp only at W2 r3 ⊢
    refine brP_i (fun _ => ?_) (fun q => absurd ?_ q)
    · exact z_810 (d := d) r3 W2 e rfl d1 kk
    · show z32 ((dlv (zC σ) (zL σ) (jP x0) 1 (newJ x0) (zD σ) 0).2.2 : Int) = _
      rw [d2]
theorem z_758 {I : IM} {D : DY} {σ : SS} {l2 l4 : Option Nat} {l3 l5 : Int32} {w6 w7 w8 w9 : PV} (r : RC ([], σ, κ) I D) (wt : WT ([], σ, κ)) (e : E01 σ x0 x1)
    (k : ∀ I2 D2, dZ D2 ≤ dZ D + 1400 → dL D2 ≤ dL D + 56000 → Q (some (vI 1)) (mm I2 D2)) :
    Wp GG (d + 104) 268 758 [vR (some 0), vR (some 45), vR l2, vI l3, vR l4, vI l5, w6, w7, w8, w9] [] (mm I D) Q := by
  obtain ⟨⟨a0, a1⟩, b, c, ⟨p0, p1⟩, q0, q1⟩ := id e
  refine s_law_758 _ _ _ _ _ _ _ _ (p_look (d := d + 3) r wt.1 _ _ _ (fun I1 D1 f1 g1 r1 => ?_))
  have e1 : S_look ([], σ, κ) 1 0 3 = 1 := look_T (τ := ([], σ, κ)) (p := 1) (w := 0) (by omega) (by omega) a1 (tru_cnt c.1 p1 q1)
  rw [e1]
  have := g1.2.1
  have := g1.2.2.1
  exact brP_i (fun _ => z_771 (d := d) r1 wt e (fun I2 D2 a b => k I2 D2 (by omega) (by omega))) (fun q => absurd rfl q)
end
/-- the law's row of kinds -/
def OK9 (l : Nat) (I : IM) (D : DY) : Prop := clo (fun a => a = l) (mm I D) ∧ dK D l = 20 ∧ dN D l = 9 ∧ dW D l = 2
theorem OK9.z {l : Nat} {I : IM} {D : DY} (h : OK9 l I D) : 159 ≤ l ∧ l < dZ D := h.1.2.1 l rfl
theorem OK9.k {l : Nat} {I : IM} {D : DY} (h : OK9 l I D) : pKd (mm I D) l = 20 ∧ pLn (mm I D) l = 9 := ⟨(mmK h.z.1).trans h.2.1, (mmN h.z.1).trans h.2.2.1⟩
theorem OK9.next {l : Nat} {I I2 : IM} {D D2 : DY} (h : OK9 l I D) (hf : FK (fun a => a = l) (mm I D) (mm I2 D2)) (hw : dW D2 l = dW D l) : OK9 l I2 D2 := by
  obtain ⟨z1, z2⟩ := h.z
  obtain ⟨h1, h2, h3, h4⟩ := h
  obtain ⟨k1, k2⟩ := hf.2.2.1 l z2
  rw [mmK z1, mmK z1] at k1
  rw [mmN z1, mmN z1] at k2
  exact ⟨hf.2.1, k1.trans h2, k2.trans h3, hw.trans h4⟩
def cntK (L : List EV) (k : Nat) : Nat := L.countP (fun e => decide (eK e = k))
section
variable {d : Nat} {Q : Option PV → PM → Prop} {κ : Option SS} {x0 x1 : PJ} {σ : SS} {l4 : Nat} {l2 : Option Nat} {l3 : Int32} {w6 w7 w8 w9 : PV}
theorem cntK_le {L : List EV} {k : Nat} : cntK L k ≤ L.length := List.countP_le_length
theorem z_714 {I0 : IM} {D : DY} (ok : OK9 l4 I0 D) (wt : WT ([], σ, κ)) (e : E01 σ x0 x1) (nx : ∀ I2 l5, RC ([], σ, κ) I2 D → Wp GG (d + 104) 268 758 [vR (some 0), vR (some 45), vR l2, vI l3, vR (some l4), vI l5, w6, w7, w8, w9] [] (mm I2 D) Q) : ∀ (g k : Nat), k + g = 9 → ∀ I, RC ([], σ, κ) I D → (∀ j, j < 9 → I l4 j = z32 (cntK ((zL σ).take (jP x1)) j : Int)) →
    Wp GG (d + 104) 268 714 [vR (some 0), vR (some 45), vR l2, vI l3, vR (some l4), vI (z32 (k : Int)), w6, w7, w8, w9] [] (mm I D) Q := by
  obtain ⟨⟨a0, a1⟩, b, c, ⟨p0, p1⟩, q0, q1⟩ := id e
  intro g
  induction g with
  | zero =>
    intro k hk I r hv
    obtain rfl : k = 9 := by omega
    exact s_law_714 _ _ _ _ _ _ _ _ (brP_i (fun _ => nx I _ r) (fun q => absurd (by decide) q))
  | succ g ih =>
    intro k hk I r hv
    have hl : (zL σ).length ≤ 240 := RC.L r |>.2.1
    have hcl : cntK ((zL σ).take (jP x1)) k ≤ 240 := Nat.le_trans cntK_le (by rw [List.length_take]; omega)
    have okI : OK9 l4 I D := ok
    refine s_law_714 _ _ _ _ _ _ _ _ (brP_i (fun q => absurd q ?_) (fun _ => ?_))
    · show ¬ z32 9 ≤ z32 (k : Int)
      rw [z32_le (by omega) (by omega) (by omega) (by omega)]
      omega
    have ea : S_row ([], σ, κ) 1 0 (z32 (k : Int)) = valR (jR x1 k) := row_eq (τ := ([], σ, κ)) (p := 1) (w := 0) (by omega) (by omega) (by omega) a1
    have ek : ((zL σ).take (jP x1)).countP (fun e => hit (jM x1) (jY x1) e k) = cntK ((zL σ).take (jP x1)) k := by
      unfold cntK
      refine List.countP_congr (fun e he => ?_)
      rw [c.2.1, c.2.2, hit_511 (wt.1.1 e (List.mem_of_mem_take he)).2.1]
    have er := p1.2.2 c.1 k
    rw [ek] at er
    refine (CI.fk okI.1 (out45 (l := [1, 0, z32 (k : Int)]) okI.1) (p_row (d := d + 3) (K := fun x I2 => x = valR (jR x1 k) ∧ RC ([], σ, κ) I2 D) r _ _ _ (fun I2 f2 r2 => ⟨ea, r2⟩))).use (fun x I2 ⟨⟨e1, r2⟩, fk⟩ => ?_)
    rw [e1]
    have hv2 : ∀ j, j < 9 → I2 l4 j = z32 (cntK ((zL σ).take (jP x1)) j : Int) := fun j hj => ((fk.2.2.2 l4 rfl j).1).trans (hv j hj)
    have go := ih (k + 1) (by omega) I2 r2 hv2
    rw [← z32_s] at go
    refine tsP_i (show pKd (mm I2 D) l4 = 20 from okI.k.1) (tsP_i (show inB (z32 (k : Int)) (pLn (mm I2 D) l4) by rw [show pLn (mm I2 D) l4 = 9 from okI.k.2]; exact inB_n (by omega) (by omega)) ?_)
    rw [ix_n (by omega), hv2 k (by omega)]
    refine brP_i (fun q => tsP_i (show pKd (mm I2 D) l4 = 20 from okI.k.1) (tsP_i (show inB (z32 (k : Int)) (pLn (mm I2 D) l4) by rw [show pLn (mm I2 D) l4 = 9 from okI.k.2]; exact inB_n (by omega) (by omega)) ?_)) (fun q => ?_)
    · have q : ¬ z32 (cntK ((zL σ).take (jP x1)) k : Int) = z32 0 := q
      rw [z32_inj (by omega) (by omega) (by omega) (by omega)] at q
      rw [if_neg (by omega)] at er
      rw [er]
      exact s_law_747 _ _ _ _ _ _ _ _ _ _ (brP_i (fun _ => go) (fun z => absurd (show valR (some (z32 (cntK ((zL σ).take (jP x1)) k : Int))) = I2 l4 k from (hv2 k (by omega)).symm) z))
    · have q : ¬ ¬ z32 (cntK ((zL σ).take (jP x1)) k : Int) = z32 0 := q
      rw [z32_inj (by omega) (by omega) (by omega) (by omega)] at q
      rw [if_pos (by omega)] at er
      rw [er]
      exact s_law_747 _ _ _ _ _ _ _ _ _ _ (brP_i (fun _ => go) (fun z => absurd rfl z))
end
