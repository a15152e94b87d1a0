/-! The law's loop, arm by arm. -/
def LIV (l2 h : Nat) (τ : ST) (I : IM) (D : DY) : Prop := RC τ I D ∧ WT τ ∧ tT τ = [] ∧ LW I ∧ OW l2 I D ∧ (∀ k, 1 ≤ k → k < 6 → I l2 k = zA (tS τ) k) ∧ SPC h (tS τ)
section
variable {d l2 h : Nat} {I : IM} {D : DY} {Q : Option PV → PM → Prop} {l3 l4 : Int32} {v w : Nat} {σ : SS} {κ : Option SS} {T : Tx}
theorem OW.k (ow : OW l2 I D) : pKd (mm I D) l2 = 20 ∧ pLn (mm I D) l2 = 6 := ⟨(mmK ow.z.1).trans ow.2.1, (mmN ow.z.1).trans ow.2.2.1⟩
theorem a_234 {n7 : Nat} {is : Int32} {l8 : Int32} (r : RC ([], σ, κ) I D) (h0 : is ≠ 0) (h1 : ¬ 0 < is → (zL σ).length = n7) (h2 : (zL σ).length ≤ n7 + 2) (h7 : n7 ≤ 240) (k : Wp GG (d + 104) 268 578 [vR (some 0), vR (some 45), vR (some l2), vI l3, vI l4, vI (z32 (v : Int)), vI (z32 (w : Int)), vI (z32 (n7 : Int)), vI l8, vI is] [] (mm I D) Q) :
    Wp GG (d + 104) 268 234 [vR (some 0), vR (some 45), vR (some l2), vI l3, vI l4, vI (z32 (v : Int)), vI (z32 (w : Int)), vI (z32 (n7 : Int)), vI l8, vI is] [] (mm I D) Q := by
  have hl : (zL σ).length ≤ 240 := r.L.2.1
  have e2 : z32 ((zL σ).length : Int) ≤ z32 (n7 : Int) + 2 := by
    show _ ≤ z32 (n7 : Int) + z32 2
    rw [z32_add, z32_le (by omega) (by omega) (by omega) (by omega)]
    omega
  refine s_law_234 _ _ _ _ _ _ _ _ (brP_i (fun q => brP_i (fun q2 => absurd q2 h0) (fun _ => q_count0 (d := d + 3) r (brP_i (fun _ => k) (fun q3 => absurd e2 q3)))) (fun q => ?_))
  refine q_count0 (d := d + 3) r (brP_i (fun q2 => absurd ?_ q2) (fun _ => brP_i (fun q2 => absurd q2 h0) (fun _ => q_count0 (d := d + 3) r (brP_i (fun _ => k) (fun q3 => absurd e2 q3)))))
  show z32 ((zL σ).length : Int) = _
  rw [h1 q]
theorem a_218 {n7 n : Nat} {is : Int32} {A : Nat → Int32} (hn : n < 6) (r : RC ([], σ, κ) I D) (wt : WT ([], σ, κ)) (lw : LW I) (ow : OW l2 I D) (ha : ∀ k, 1 ≤ k → k < 6 → I l2 k = A k) (hA : zA σ = if 0 < n ∧ 0 < is then updF A n is else A) (hs : SPC h σ) (h0 : is ≠ 0) (h1 : ¬ 0 < is → (zL σ).length = n7) (h2 : (zL σ).length ≤ n7 + 2) (h7 : n7 ≤ 240)
    (k : ∀ I2 w8 w9, LIV l2 h ([], σ, κ) I2 D → Wp GG (d + 104) 268 578 [vR (some 0), vR (some 45), vR (some l2), vI l3, vI l4, vI (z32 (v : Int)), vI (z32 (w : Int)), vI (z32 (n7 : Int)), w8, w9] [] (mm I2 D) Q) :
    Wp GG (d + 104) 268 218 [vR (some 0), vR (some 45), vR (some l2), vI l3, vI l4, vI (z32 (v : Int)), vI (z32 (w : Int)), vI (z32 (n7 : Int)), vI (z32 (n : Int)), vI is] [] (mm I D) Q := by
  have i0 : is ≤ 0 ↔ ¬ 0 < is := Int32.not_lt.symm
  have n0 : z32 (n : Int) ≤ 0 ↔ n = 0 := by
    show z32 (n : Int) ≤ z32 0 ↔ _
    rw [z32_le (by omega) (by omega) (by omega) (by omega)]
    omega
  refine s_law_218 _ _ _ _ _ _ _ _ (brP_i (fun q => ?_) (fun q => brP_i (fun q2 => ?_) (fun q2 => ?_)))
  · rw [if_neg (fun z => (i0.mp q) z.2)] at hA
    exact a_234 r h0 h1 h2 h7 (k I _ _ ⟨r, wt, rfl, lw, ow, fun j a b => by rw [hA]; exact ha j a b, hs⟩)
  · rw [n0] at q2
    rw [if_neg (fun z => by omega)] at hA
    exact a_234 r h0 h1 h2 h7 (k I _ _ ⟨r, wt, rfl, lw, ow, fun j a b => by rw [hA]; exact ha j a b, hs⟩)
  · rw [n0] at q2
    have ip : 0 < is := Classical.not_not.mp (fun z => q (i0.mpr z))
    rw [if_pos ⟨by omega, ip⟩] at hA
    refine tsP_i ow.k.1 (tsP_i (by rw [ow.k.2]; exact inB_n hn (by omega)) ?_)
    rw [ix_n (by omega)]
    have lz := ow.z.1
    refine a_234 (r.ans ow) h0 h1 h2 h7 (k _ _ _ ⟨r.ans ow, wt, rfl, lw.fr (fun q j a b => up2_ne (by omega)), ow, fun j a b => ?_, hs⟩)
    show up2 I l2 n is l2 j = zA σ j
    rw [hA]
    by_cases z : j = n
    · rw [z, up2_eq, updF_eq]
    · rw [up2_nj z, updF_ne z]
      exact ha j a b
theorem a_178 {n n7 s : Nat} {ex : Int32} {w9 : PV} (hn : n < 6) (hs3 : s < 3) (hex : ¬ ex < -1) (hp : ∃ cm, allP T (cmP false T) = .inl cm) (hT : T.length ≤ 160) (r : RC (T, σ, κ) I D) (wt : WT (T, σ, κ)) (lw : LW I) (ow : OW l2 I D) (ha : ∀ k, 1 ≤ k → k < 6 → I l2 k = zA σ k) (hs : SPC h σ) (h7 : n7 = (zL σ).length)
    (k : ∀ I2 D2 σ2 w8 w9, LIV l2 h ([], σ2, κ) I2 D2 → dZ D2 ≤ dZ D + 200 → dL D2 ≤ dL D + 8000 → Wp GG (d + 104) 268 578 [vR (some 0), vR (some 45), vR (some l2), vI l3, vI l4, vI (z32 (v : Int)), vI (z32 (w : Int)), vI (z32 (n7 : Int)), w8, w9] [] (mm I2 D2) Q) :
    Wp GG (d + 104) 268 178 [vR (some 0), vR (some 45), vR (some l2), vI l3, vI l4, vI (z32 (v : Int)), vI (z32 (w : Int)), vI (z32 (n7 : Int)), vI (z32 (n : Int)), w9] [vI ex, vI (z32 (s : Int)), vR (some 45)] (mm I D) Q := by
  obtain ⟨cm, hcm⟩ := hp
  have hl : (zL σ).length ≤ 240 := r.L.2.1
  have rs := rngN (a := 0) (b := s) (c := 7) (by omega) (by omega) (by omega)
  have rn := rngN (a := 0) (b := n) (c := 999) (by omega) (by omega) (by omega)
  have E := S_ask_eq (σ := σ) (κ := κ) (s := z32 (s : Int)) (ex := ex) (n := z32 (n : Int)) ⟨rs, hex, rn⟩ hcm
  rw [aN_z (n := s) (by omega), aN_z (n := n) (by omega)] at E
  obtain ⟨g, F⟩ := ask_ok (σ := σ) (s := s) (ex := ex) (n := n) (cm := cm)
  have W := w_ask wt hT (z32 (s : Int)) ex (z32 (n : Int))
  refine s_law_178 _ _ _ _ _ _ _ _ _ _ (wask (d := d + 3) r wt.1 ow _ _ _ (fun I2 D2 f2 g2 o2 a2 r2 => ?_))
  rw [E] at W r2 ⊢
  dsimp only at W r2 ⊢
  have A2 : ∀ j, 1 ≤ j → j < 6 → I2 l2 j = zA σ j := fun j b c => (a2 j).trans (ha j b c)
  have kk := fun I3 w8 w9 hL => k I3 D2 (askS σ s ex n cm).1 w8 w9 hL g2.2.1 g2.2.2.1
  have S2 := hs.grw g
  have n0 : z32 (n : Int) ≤ 0 ↔ n = 0 := by
    show z32 (n : Int) ≤ z32 0 ↔ _
    rw [z32_le (by omega) (by omega) (by omega) (by omega)]
    omega
  have facts : (askS σ s ex n cm).2 ≠ 0 ∧ (¬ 0 < (askS σ s ex n cm).2 → (zL (askS σ s ex n cm).1).length = n7) ∧ (zL (askS σ s ex n cm).1).length ≤ n7 + 2 ∧ zA (askS σ s ex n cm).1 = if 0 < n ∧ 0 < (askS σ s ex n cm).2 then updF (zA σ) n (askS σ s ex n cm).2 else zA σ := by
    rcases F with ⟨b1, b2, b3, b4, b5⟩ | ⟨b1, b2, b3, b4, b5⟩
    · refine ⟨fun e => ?_, fun e => ?_, by rw [b4]; omega, ?_⟩
      · rw [b3] at e
        rw [e] at b2
        exact absurd b2 (by decide)
      · rw [b3] at e
        exact absurd b2 e
      · rw [b5, b3, if_pos ⟨b1, b2⟩, updF_id]
    · exact ⟨b2, fun e => by rw [b3 e, h7], by omega, b5⟩
  obtain ⟨F1, F2, F3, F4⟩ := facts
  have go := a_218 (d := d) (l3 := l3) (l4 := l4) (v := v) (w := w) (Q := Q) hn r2 W (lw.fr f2) o2 A2 F4 S2 F1 F2 F3 (by omega) kk
  refine brP_i (fun _ => go) (fun q => tsP_i o2.k.1 (tsP_i (by rw [o2.k.2]; exact inB_n hn (by omega)) ?_))
  rw [n0] at q
  rw [ix_n (by omega), A2 n (by omega) hn]
  refine brP_i (fun _ => go) (fun q2 => tsP_i o2.k.1 (tsP_i (by rw [o2.k.2]; exact inB_n hn (by omega)) ?_))
  have z0 : 0 < zA σ n := Classical.not_not.mp (fun z => q2 (Int32.not_lt.mp z))
  rcases F with ⟨b1, b2, b3, b4, b5⟩ | ⟨b1, -⟩
  · rw [A2 n (by omega) hn]
    refine brP_i (fun q3 => absurd b3 q3) (fun _ => q_count0 (d := d + 3) r2 (brP_i (fun _ => go) (fun q3 => absurd ?_ q3)))
    show z32 ((zL (askS σ s ex n cm).1).length : Int) = _
    rw [b4, h7]
  · exact absurd ⟨by omega, z0⟩ b1
end
