/-! The law, from the constructor's end on. -/
section
variable {d : Nat} {Q : Option PV → PM → Prop} {κ : Option SS} {x0 x1 : PJ} {σ : SS} {l2 : Option Nat} {l3 : Int32} {w6 w7 w8 w9 : PV}
theorem cntK_s {L : List EV} {e : EV} {n k : Nat} (he : L[n]? = some e) : cntK (L.take (n + 1)) k = cntK (L.take n) k + (if eK e = k then 1 else 0) := by
  unfold cntK
  rw [take_s he, List.countP_append]
  congr 1
  by_cases q : eK e = k
  · rw [if_pos q]
    simp [q]
  · rw [if_neg q]
    simp [q]
theorem z_679 {l4 Z S : Nat} (wt : WT ([], σ, κ)) (e : E01 σ x0 x1) (nx : ∀ I2 D2 l5, OK9 l4 I2 D2 → RC ([], σ, κ) I2 D2 → dZ D2 ≤ Z + 200 * jP x1 → dL D2 ≤ S + 8000 * jP x1 → (∀ j, j < 9 → I2 l4 j = z32 (cntK ((zL σ).take (jP x1)) j : Int)) → Wp GG (d + 104) 268 711 [vR (some 0), vR (some 45), vR l2, vI l3, vR (some l4), vI l5, w6, w7, w8, w9] [] (mm I2 D2) Q) :
    ∀ (g n : Nat), n + g = jP x1 → ∀ I D, OK9 l4 I D → RC ([], σ, κ) I D → dZ D + 200 ≤ Z + 200 * n → dL D + 8000 ≤ S + 8000 * n → (∀ j, j < 9 → I l4 j = z32 (cntK ((zL σ).take n) j : Int)) →
    Wp GG (d + 104) 268 679 [vR (some 0), vR (some 45), vR l2, vI l3, vR (some l4), vI (z32 ((n + 1 : Nat) : Int)), w6, w7, w8, w9] [] (mm I D) Q := by
  obtain ⟨⟨a0, a1⟩, b, c, ⟨p0, p1⟩, q0, q1⟩ := id e
  intro g
  induction g with
  | zero =>
    intro n hn I D ok r bz bl hv
    obtain rfl : n = jP x1 := by omega
    have hl : (zL σ).length ≤ 240 := RC.L r |>.2.1
    have ea : S_look ([], σ, κ) 1 0 0 = z32 (jP x1 : Int) := look_0 (τ := ([], σ, κ)) (p := 1) (w := 0) (by omega) (by omega) a1
    refine s_law_679 _ _ _ _ _ _ _ _ ((AI.fk ok.1 (out45 (l := [1, 0, 0]) ok.1) (p_look (d := d + 3) (K := fun x I2 D2 => x = z32 (jP x1 : Int) ∧ GD D D2 ∧ RC ([], σ, κ) I2 D2) r wt.1 _ _ _ (fun I2 D2 f2 g2 r2 => ⟨ea, g2, r2⟩))).use (fun x I2 D2 ⟨⟨e1, g2, r2⟩, fk⟩ => ?_))
    rw [e1]
    have z1 := g2.2.1
    have z2 := g2.2.2.1
    refine brP_i (fun _ => nx I2 D2 _ (ok.next fk (g2.2.2.2 l4 ok.z.2)) r2 (by omega) (by omega) (fun j hj => ((fk.2.2.2 l4 rfl j).1).trans (hv j hj))) (fun q => absurd ?_ q)
    rw [z32_lt (by omega) (by omega) (by omega) (by omega)]
    omega
  | succ g ih =>
    intro n hn I D ok r bz bl hv
    have hl : (zL σ).length ≤ 240 := RC.L r |>.2.1
    have hlt : n < (zL σ).length := by omega
    obtain ⟨ev, he⟩ : ∃ ev, (zL σ)[n]? = some ev := ⟨_, List.getElem?_eq_getElem hlt⟩
    have hk9 : eK ev < 9 := (wt.1.1 ev (List.mem_of_getElem? he)).2.1
    have ea : S_look ([], σ, κ) 1 0 0 = z32 (jP x1 : Int) := look_0 (τ := ([], σ, κ)) (p := 1) (w := 0) (by omega) (by omega) a1
    refine s_law_679 _ _ _ _ _ _ _ _ ((AI.fk ok.1 (out45 (l := [1, 0, 0]) ok.1) (p_look (d := d + 3) (K := fun x I2 D2 => x = z32 (jP x1 : Int) ∧ GD D D2 ∧ RC ([], σ, κ) I2 D2) r wt.1 _ _ _ (fun I2 D2 f2 g2 r2 => ⟨ea, g2, r2⟩))).use (fun x I2 D2 ⟨⟨e1, g2, r2⟩, fk⟩ => ?_))
    rw [e1]
    have z1 := g2.2.1
    have z2 := g2.2.2.1
    have ok2 := ok.next fk (g2.2.2.2 l4 ok.z.2)
    refine brP_i (fun q => absurd q ?_) (fun _ => ?_)
    · rw [z32_lt (by omega) (by omega) (by omega) (by omega)]
      omega
    refine q_event (d := d + 3) (A := fun a => a = l4) r2 wt.1 ok2.1 _ _ (fun I3 f3 r3 a3 => ?_)
    have E2 := fo_event (τ := ([], σ, κ)) hl he 2 (by omega)
    rw [if_neg (by omega)] at E2
    rw [show S_event ([], σ, κ) (z32 ((n + 1 : Nat) : Int)) 2 = z32 (eK ev : Int) from E2]
    have hv3 : ∀ j, j < 9 → I3 l4 j = z32 (cntK ((zL σ).take n) j : Int) := fun j hj => (a3 l4 rfl j).trans (((fk.2.2.2 l4 rfl j).1).trans (hv j hj))
    refine tsP_i (show pKd (mm I3 D2) l4 = 20 from ok2.k.1) (tsP_i (show inB (z32 (eK ev : Int)) (pLn (mm I3 D2) l4) by rw [show pLn (mm I3 D2) l4 = 9 from ok2.k.2]; exact inB_n hk9 (by omega)) ?_)
    refine tsP_i (show pKd (mm I3 D2) l4 = 20 from ok2.k.1) (tsP_i (show inB (z32 (eK ev : Int)) (pLn (mm I3 D2) l4) by rw [show pLn (mm I3 D2) l4 = 9 from ok2.k.2]; exact inB_n hk9 (by omega)) ?_)
    rw [ix_n (by omega), hv3 _ hk9, z32_s, z32_s]
    refine ih (n + 1) (by omega) _ D2 ok2 (r3.own (fun q j hq => up2_ne (fun z => hq ⟨by rw [z]; exact ok2.z.1, by rw [z]; exact ok2.2.2.2⟩))) ?_ ?_ (fun j hj => ?_)
    · rw [Nat.mul_succ]
      generalize 200 * n = q at bz ⊢
      omega
    · rw [Nat.mul_succ]
      generalize 8000 * n = q at bl ⊢
      omega
    · rw [cntK_s he]
      by_cases z : j = eK ev
      · rw [z, up2_eq, if_pos rfl]
      · rw [up2_nj z, if_neg (fun q => z q.symm)]
        exact hv3 j hj
/-- from the loop's end on -/
theorem z_621 {l2 h : Nat} {l3 l4 : Int32} {I : IM} {D : DY} {w5 : PV} (L : LIV l2 h ([], σ, κ) I D) (k : ∀ I2 D2, dZ D2 ≤ dZ D + 52000 → dL D2 ≤ dL D + 2100000 → Q (some (vI 1)) (mm I2 D2)) :
    Wp GG (d + 104) 268 621 [vR (some 0), vR (some 45), vR (some l2), vI l3, vI l4, w5, w6, w7, w8, w9] [] (mm I D) Q := by
  obtain ⟨r, wt, t, lw, ow, a, sp⟩ := L
  have ox : OX I D := ⟨ow.1.no, ow.2.2.2.2⟩
  obtain ⟨x0, x1, P, b, c, ⟨p0, p1⟩, ⟨q0, q1⟩, -⟩ := sp
  have hl : (zL σ).length ≤ 240 := RC.L r |>.2.1
  refine s_law_621 _ _ _ _ _ _ _ _ (tell_con (d := d + 2) (j := 32) (by omega) lw r (fun I1 f1 r1 => brP_i (fun q => absurd q (by decide)) (fun _ => ?_)))
  have W1 := w_project (τ := (sL 32, σ, κ)) wt 2
  have E1 : S_project (sL 32, σ, κ) 2 = (([], setPJ (setPJ σ 0 2 (some (newX (0, 130, 0, [1])))) 1 2 none, κ), 1) := S_project_eq (T := sL 32) (σ := σ) (κ := κ) (p := 2) (by omega) par_32
  refine xproject (d := d + 3) r1 (ox.i (I2 := I1)) _ (fun I2 D2 f2 g2 o2 r2 => ?_)
  rw [E1] at W1 r2 ⊢
  dsimp only at W1 r2 ⊢
  refine brP_i (fun q => absurd rfl q) (fun _ => ?_)
  have E2 : S_deliver ([], setPJ (setPJ σ 0 2 (some (newX (0, 130, 0, [1])))) 1 2 none, κ) 2 0 1 240 = _ := dlv_eq (T := []) (κ := κ) (σ := setPJ (setPJ σ 0 2 (some (newX (0, 130, 0, [1])))) 1 2 none) (p := 2) (n := 240) (f := 1) (x := newJ (newX (0, 130, 0, [1]))) (by omega) (by omega) (by omega) 0 (by omega) rfl
  obtain ⟨d1, d2⟩ := dlv_all (C := zC σ) (L := zL σ) (x := newX (0, 130, 0, [1])) (D := zD σ) (n := 240) rfl
  rw [Nat.min_eq_right hl] at d1 d2
  obtain ⟨t1, t2, t3, t4⟩ := tru_of (C := zC σ) (L := zL σ) (x := newX (0, 130, 0, [1])) (m := (zL σ).length) rfl (Nat.le_refl _)
  have W2 := w_deliver W1 2 0 1 240
  refine s_law_639 _ _ _ _ _ _ _ _ (p_deliver (d := d + 3) r2 W1.1 _ _ _ _ (fun I3 f3 r3 => ?_))
  rw [E2] at W2 r3 ⊢
  dsimp only at W2 r3 ⊢
  refine q_count0 (d := d + 3) r3 ?_
  refine brP_i (fun q => absurd ?_ q) (fun _ => ?_)
  · show z32 ((dlv (zC σ) (zL σ) 240 1 (newJ (newX (0, 130, 0, [1]))) (zD σ) 0).2.2 : Int) = z32 ((zL σ).length : Int)
    rw [d2]
  generalize hσ : wD (setPJ (setPJ (setPJ σ 0 2 (some (newX (0, 130, 0, [1])))) 1 2 none) 0 2 (some (dlv (zC (setPJ (setPJ σ 0 2 (some (newX (0, 130, 0, [1])))) 1 2 none)) (zL (setPJ (setPJ σ 0 2 (some (newX (0, 130, 0, [1])))) 1 2 none)) 240 1 (newJ (newX (0, 130, 0, [1]))) (zD (setPJ (setPJ σ 0 2 (some (newX (0, 130, 0, [1])))) 1 2 none)) 0).1)) (dlv (zC (setPJ (setPJ σ 0 2 (some (newX (0, 130, 0, [1])))) 1 2 none)) (zL (setPJ (setPJ σ 0 2 (some (newX (0, 130, 0, [1])))) 1 2 none)) 240 1 (newJ (newX (0, 130, 0, [1]))) (zD (setPJ (setPJ σ 0 2 (some (newX (0, 130, 0, [1])))) 1 2 none)) 0).2.1 = σd at W2 r3 ⊢
  have eL : zL σd = zL σ := by rw [← hσ]; rfl
  have eC : zC σd = zC σ := by rw [← hσ]; rfl
  have eP2 : zP σd 0 2 = some (truV (zC σ) (zL σ) (zL σ).length 1 (newJ (newX (0, 130, 0, [1])))) := by
    rw [← hσ]
    exact congrArg some d1
  have eE : E01 σd x0 x1 := by
    refine ⟨⟨?_, ?_⟩, b, c, ⟨by rw [eL]; exact p0, by rw [eL]; exact p1⟩, by rw [eL]; exact q0, by rw [eL]; exact q1⟩
    · rw [← hσ]
      exact P.1
    · rw [← hσ]
      exact P.2
  have e3 : S_look ([], σd, κ) 2 0 3 = 1 := look_T (τ := ([], σd, κ)) (p := 2) (w := 0) (by omega) (by omega) eP2 (by show TRU (zC σd) (zL σd) _; rw [eL, eC]; exact t1)
  refine AI.ox (K0 := fun x I4 D4 => x = 1 ∧ GD D2 D4 ∧ RC ([], σd, κ) I4 D4) (o2.i (I2 := I3)) (out45 (l := [2, 0, 3]) (o2.i (I2 := I3)).1) (p_look (d := d + 3) r3 W2.1 _ _ _ (fun I4 D4 f4 g4 r4 => ⟨e3, g4, r4⟩)) (fun x I4 D4 ⟨e4, g4, r4⟩ o4 => ?_)
  rw [e4]
  refine brP_i (fun _ => ?_) (fun q => absurd rfl q)
  have hz4 : 159 ≤ dZ D4 := r4.1
  refine s_law_670 _ _ _ _ _ _ _ _ (can_mk 2 hz4 ?_)
  have c9 : CHX XN I4 D4 (upr I4 (dZ D4) 0) (dmk D4 20 9 2) 1 9 := ⟨DX.mk, fun q j hq _ => upr_ne (by omega)⟩
  have cl := clo.mk (c := 20) (n := 9) o4.1
  rw [mk_mm 2 hz4] at cl
  have ok : OK9 (dZ D4) (upr I4 (dZ D4) 0) (dmk D4 20 9 2) := ⟨cl.sub (fun a e => Or.inr e) (fun a ha hn => absurd (ha.resolve_left id) hn), up1_eq, up1_eq, up1_eq⟩
  have y1 := g2.2.1
  have y2 := g2.2.2.1
  have y3 := g4.2.1
  have y4 := g4.2.2.1
  have zz : dZ (dmk D4 20 9 2) = dZ D4 + 1 := rfl
  have zl : dL (dmk D4 20 9 2) = dL D4 + 9 := rfl
  have q1' : jP x1 ≤ 240 := Nat.le_trans q1 hl
  refine z_679 (d := d) (Z := dZ D4 + 201) (S := dL D4 + 8009) W2 eE (fun I5 D5 l5 ok5 r5 b1 b2 hv5 => ?_) (jP x1) 0 (Nat.zero_add _) _ _ ok (r4.chx c9) (by omega) (by omega) (fun j hj => ?_)
  · refine s_law_711 _ _ _ _ _ _ _ _ ?_
    have b3 : 200 * jP x1 ≤ 48000 := by omega
    have b4 : 8000 * jP x1 ≤ 1920000 := by omega
    refine z_714 (d := d) ok5 W2 eE (fun I6 l6 r6 => z_758 (d := d) r6 W2 eE (fun I7 D7 u1 u2 => k I7 D7 ?_ ?_)) 9 0 (Nat.zero_add _) I5 r5 hv5
    · generalize 200 * jP x1 = q at b1 b3
      omega
    · generalize 8000 * jP x1 = q at b2 b4
      omega
  · rw [upr_eq]
    rfl
/-- the law says true -/
theorem law_7 {I : IM} {D : DY} (r : RC τ0 I D) (lw : LW I) (ox : OX I D) (k : ∀ I2 D2, dZ D2 ≤ dZ D + 77010 → dL D2 ≤ dL D + 3100100 → Q (some (vI 1)) (mm I2 D2)) :
    Wp GG (d + 104) 268 7 [vR (some 0), vT, vT, vT, vT, vT, vT, vT, vT, vT] [vR (some 45)] (mm I D) Q := by
  refine l_start (d := d) (Z := dZ D + 1010) (S := dL D + 40100) r.1 r lw ox (Nat.le_refl _) (Nat.le_refl _) (fun l2 σ I2 D2 L z1 z2 => ?_)
  refine l_loop (d := d) (Z := dZ D + 1010) (S := dL D + 40100) (fun h σ I3 D3 l4 w5 w6 w7 w8 w9 L3 z3 z4 => ?_) 30 0 (by omega) 0 σ I2 D2 _ _ _ _ _ L (by omega) (by omega)
  exact z_621 (d := d) L3 (fun I4 D4 z5 z6 => k I4 D4 (by omega) (by omega))
end
