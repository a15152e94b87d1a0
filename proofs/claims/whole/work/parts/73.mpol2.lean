/-! The model's call that tells a policy. -/
theorem bnd_as {α β γ : Type} (r : PR α) (f : α → Tx → PR β) (g : β → Tx → PR γ) : bnd (bnd r f) g = bnd r (fun a s => bnd (f a s) g) := by
  cases r <;> rfl
def QRf (I I2 : IM) : Prop := ∀ q k, ¬ ((q = 106 ∧ (2 ≤ k ∧ k ≤ 5 ∨ 9 ≤ k ∧ k ≤ 11 ∨ 31 ≤ k ∧ k ≤ 34)) ∨ (q = 109 ∧ 17395 ≤ k ∧ k < 17640) ∨ (q = 110 ∧ k = 71)) → I2 q k = I q k
theorem QRf.t {I I2 : IM} (h : QRf I I2) : SFt I I2 := fun q k e => h q k (fun c => e (by unfold Sc; omega))
theorem m_ptail {d : Nat} {I : IM} {D : DY} {A B : IM → Prop} {T : Tx} {r6 : PS} {m0 : Int32} {c0 : Tx} (h160 : T.length ≤ 160) (hW : WRD I) (M : MP I T r6) (hq : plP T = bnd (sq r6 (cmP true)) (fun k s => (.inl ((m0, c0, k), s) : PR (Int32 × Tx × Cm))))
    (ka : ∀ cm I2, allP T (plP T) = .inl (m0, c0, cm) → okCm cm → cWF 3 c0 → (∃ s, r6 = .inl s) → CMM I2 71 cm → QRf I I2 → TPm I2 [] → A I2) (kb : ∀ f I2, allP T (plP T) = .inr f → SFt I I2 → TPm I2 [] → -100 - I2 106 4 = fltV f → B I2) :
    brP ((0 : Int32) ≤ I 106 4) (CI (d + 70) 188 [vR (some 106)] (mm I D) (fun x I2 => brP (x < 0) (A I2) (B I2))) (CV (d + 70) 208 [vR (some 106), vI 1, vI 71] (mm I D) (fun I14 => CI (d + 70) 188 [vR (some 106)] (mm I14 D) (fun x I2 => brP (x < 0) (A I2) (B I2)))) := by
  rcases r6 with s | m
  · refine (brP_f (by rw [M.in.2.2]; decide)).mpr ?_
    refine m_command (d := d) (sl := 71) (pol := true) hW (by omega) M (fun I2 f2 M2 c2 => ?_)
    have e4 : aft (plP T) = aft (sq (.inl s) (cmP true)) := by rw [hq]; exact aft_m _ (fun k => (m0, c0, k))
    rw [← e4] at M2
    refine m_end_br (d := d + 69) M2 (fun u I3 h1 h2 h3 h4 => ?_) (fun f I3 h1 h3 h4 h5 h6 h7 => kb f I3 h1 ((f2.t (by omega) (by omega)).tr h3.t) h4 h6)
    obtain ⟨w1, w2, -⟩ := plP_wf h160 h2
    rw [hq] at h2
    obtain ⟨cm, s1, q1, q2⟩ := bnd_inv h2
    cases q2
    obtain ⟨a, b, c⟩ := c2 cm [] q1
    refine ka cm I3 h1 w2 w1 ⟨s, rfl⟩ ⟨(h3 _ _ (by omega)).trans a, (h3 _ _ (by omega)).trans b, ?_⟩ (fun q k e => (h3 q k (by omega)).trans (f2 q k (by omega))) h4
    cases hc : cm.2.2.2 with
    | none =>
      rw [hc] at c
      exact ⟨(h3 _ _ (by omega)).trans c.1, (h3 _ _ (by omega)).trans c.2⟩
    | some co =>
      rw [hc] at c
      exact ⟨(h3 _ _ (by omega)).trans c.1, c.2.mv (fun t _ _ => h3 _ _ (by omega)) (h3 _ _ (by omega))⟩
  · have hfl : ¬ I 106 4 < 0 := fun c => by
      obtain ⟨s, e⟩ := M.fl.mp c
      cases e
    refine (brP_t (Int32.not_lt.mp hfl)).mpr ?_
    have e4 : aft (plP T) = .inr m := by rw [hq]; rfl
    rw [← e4] at M
    refine m_end_br (d := d + 69) M (fun u I3 h1 h2 h3 h4 => ?_) (fun f I3 h1 h3 h4 h5 h6 h7 => kb f I3 h1 h3.t h4 h6)
    rw [h2] at e4
    cases e4
def ifV : Tx := [105, 102]
def doV : Tx := [100, 111]
theorem ifdo_eq (s : Tx) : wdP [ifV, doV] s = if wdOf s = ifV then .inl (0, s.drop (wdOf s).length) else bnd (wdP [doV] s) (fun _ s => .inl (1, s)) := by
  rw [wdP_fd, wdP_fd]
  by_cases h : wdOf s = ifV
  · rw [if_pos h, h]
    rfl
  · rw [if_neg h]
    show (match (if ifV = wdOf s then some 0 else (if doV = wdOf s then some 0 else none).map (· + 1)) with
      | some q => (.inl (q, s.drop (wdOf s).length) : PR Nat)
      | none => .inr s.length) = bnd (match (if doV = wdOf s then some 0 else none) with
      | some q => (.inl (q, s.drop (wdOf s).length) : PR Nat)
      | none => .inr s.length) (fun _ s => .inl (1, s))
    rw [if_neg (fun c => h c.symm)]
    by_cases h2 : doV = wdOf s
    · rw [if_pos h2]
      rfl
    · rw [if_neg h2]
      rfl
theorem if_eq (s : Tx) (h : wdOf s = ifV) : wdP [ifV] s = .inl (0, s.drop (wdOf s).length) := by
  rw [wdP_fd, h]
  rfl
/-- what follows the kinds of a policy -/
def plR (m : Int32) (s : Tx) : PR (Int32 × Tx × Cm) := bnd (wdP [ifV, doV] s) (fun w s => bnd (plI w s) (fun c s => bnd (tkP 32 s) (fun _ s => bnd (cmP true s) (fun k s => .inl ((m, c, k), s)))))
section
variable {d : Nat} {I : IM} {D : DY} {τ : ST}
theorem q_policy {K : Int32 → IM → Prop} (h : RM τ I) (p : Int32) (k : ∀ I2, FrC I I2 → RM (S_policy τ p).1 I2 → K (S_policy τ p).2 I2) : CI (d + 100) 249 [vR (some 106), vI p] (mm I D) K := by
  have h160 := h.1.2.1
  have h240 := h.E.2.1
  unfold S_policy at k
  refine s_M_policy _ ?_
  rw [e_mpol]
  refine br1 (fun hp => ?_) (fun hp => qI_i ?_)
  rotate_left
  · rw [if_neg hp] at k
    exact k I FrC.rf h
  rw [if_pos hp] at k
  obtain ⟨pn, rfl, hpn⟩ := rng (m := 3) (by omega) hp
  rw [aN_z (by omega)] at k
  refine m_begin h.1 (fun I1 f1 M1 => ?_)
  have W1 := h.2.1.nf f1
  have e1 : plP (tT τ) = sq (.inl (tT τ)) (fun s => bnd (wdP [[111, 110]] s) (fun _ s => bnd (tkP 32 s) (fun _ s => bnd (kdP s) (fun m s => bnd (tkP 32 s) (fun _ s => plR m s))))) := rfl
  rw [sq_b, sq_b] at e1
  refine m_word (d := d + 97) (lo := 29) (hi := 29) (ws := [[111, 110]]) W1 M1 (by omega) (by decide) (fun x2 I2 f2 M2 _ _ => ?_)
  generalize hr1 : aft (sq (.inl (tT τ)) (wdP [[111, 110]])) = r1 at *
  refine m_take (d := d + 98) M2 (by decide) (fun I3 f3 M3 _ => ?_)
  generalize hr2 : aft (sq r1 (tkP 32)) = r2 at *
  have W3 := (W1.nf f2).nf f3
  obtain ⟨m0, hm0, e2⟩ := sq_v r2 kdP
  rw [e2, sq_b] at e1
  refine m_kinds (d := d + 96) W3 M3 (fun x5 I4 f4 M4 hv5 => ?_)
  generalize hr3 : aft (sq r2 kdP) = r3 at *
  refine m_take (d := d + 98) M4 (by decide) (fun I6 f6 M6 _ => ?_)
  generalize hr4 : aft (sq r3 (tkP 32)) = r4 at *
  have W6 := (W3.nf f4).nf f6
  have fI : SFr I I6 := f1.s.tr (f2.s.tr (f3.s.tr (f4.s.tr f6.s)))
  have x5m : ∀ s, r4 = .inl s → x5 = m0 := fun s hs => by
    obtain ⟨_, q4⟩ := aft_in (hr4.trans hs)
    obtain ⟨s3, hs3⟩ := sq_in q4
    obtain ⟨m1, q3⟩ := aft_in (hr3.trans hs3)
    rw [hv5 m1 s3 q3, hm0 m1 s3 q3]
  -- what fails
  have bad : ∀ f I2, allP (tT τ) (plP (tT τ)) = .inr f → SFt I I2 → TPm I2 [] → -100 - I2 106 4 = fltV f → qI (mm I D) K (some (vI (-100 - I2 106 4))) (mm I2 D) := fun f I2 h1 fE t2 h6 => qI_i (by
    rw [h1] at k
    rw [h6]
    exact k I2 fE.c (h.tp fE t2))
  -- what is laid
  have good : ∀ (c0 : Tx) (cm : Cm) (I9 G : IM), allP (tT τ) (plP (tT τ)) = .inl (m0, c0, cm) → okCm cm → cWF 3 c0 → SFt I I9 → QFr pn I9 G → TPm G [] → PLD G pn m0 (G 147 pn) cm (zL (tS τ)).length → CNM G (G 147 pn) (62 + 2 * pn) c0 → qI (mm I D) K (some (vI 1)) (mm G D) := fun c0 cm I9 G h1 ok wc fE fG tG pl cn => qI_i (by
    rw [h1] at k
    have k : ∀ J, FrC I J → RM ([], setQS (tS τ) pn (newQL (m0, c0, cm) (zL (tS τ)).length), tI τ) J → K 1 J := k
    obtain ⟨p1, p2, p3, p4, p5, p6, p7⟩ := pl
    refine k G (fun q j e => (fG q j (by omega)).trans (fE.c q j e)) ⟨tG, (h.2.1.sf fE).fr (fun j => fG _ _ (by omega)), (h.2.2.1.st fE).qs (by omega) fG ⟨p1, ⟨p2, cn, p4⟩, ⟨p5, p6, p7⟩, ok, wc, h240⟩, (h.2.2.2.st fE).mv (fG _ _ (by omega)) (fun j => fG _ _ (by omega)) (fun j hj => fG _ _ (by omega)) (fun j hj => fG _ _ (by omega))⟩)
  rcases r4 with s4 | m
  rotate_left
  · -- it has failed before
    have hfl : ¬ I6 106 4 < 0 := fun c => by
      obtain ⟨s, e⟩ := M6.fl.mp c
      cases e
    refine (brP_t (Int32.not_lt.mp hfl)).mpr ?_
    refine m_word (d := d + 97) (lo := 30) (hi := 30) (ws := [doV]) W6 M6 (by omega) (by decide) (fun x7 I7 f7 M7 _ _ => ?_)
    refine m_take (d := d + 98) M7 (by decide) (fun I8 f8 M8 _ => ?_)
    exact m_ptail (d := d + 29) (r6 := .inr m) (A := PST0 (d + 99) D (qI (mm I D) K) (z32 (pn : Int)) x5) (B := fun I2 => qI (mm I D) K (some (vI (-100 - I2 106 4))) (mm I2 D)) (m0 := m0) (c0 := []) h160 ((W6.nf f7).nf f8) M8 e1 (fun cm I2 _ _ _ hs => by obtain ⟨s, hs⟩ := hs; cases hs) (fun f I2 h1 fE t2 h6 => bad f I2 h1 (fI.t.tr ((f7.s.tr f8.s).t.tr fE)) t2 h6)
  have hx5 := x5m s4 rfl
  subst hx5
  rw [sq_inl] at e1
  refine (brP_f (by rw [M6.in.2.2]; decide)).mpr ?_
  rw [show (28 : Int32) = z32 ((28 : Nat) : Int) from rfl, e_isNext (w := 28) W6 M6 (by omega), show wdsL.getD 28 [] = ifV by decide]
  refine br0 (fun cIf => ?_) (fun cIf => ?_)
  · -- with a condition
    have e3 : plR x5 s4 = sq (.inl s4) (fun s => bnd (wdP [ifV] s) (fun _ s => bnd (tkP 32 s) (fun _ s => bnd (cP absV 0 s) (fun c s => bnd (tkP 32 s) (fun _ s => bnd (wdP [doV] s) (fun _ s => bnd (tkP 32 s) (fun _ s => bnd (cmP true s) (fun k s => (.inl ((x5, c, k), s) : PR (Int32 × Tx × Cm)))))))))) := by
      unfold plR
      rw [ifdo_eq, if_pos cIf, sq_inl, if_eq s4 cIf]
      show bnd (plI 0 _) _ = bnd (tkP 32 _) _
      have e5 : plI 0 (s4.drop (wdOf s4).length) = bnd (tkP 32 (s4.drop (wdOf s4).length)) (fun _ s => bnd (cP absV 0 s) (fun c s => bnd (tkP 32 s) (fun _ s => bnd (wdP [doV] s) (fun _ s => (.inl (c, s) : PR Tx))))) := rfl
      rw [e5, bnd_as]
      congr 1
      funext _ s
      rw [bnd_as]
      congr 1
      funext c s
      rw [bnd_as]
      congr 1
      funext _ s
      rw [bnd_as]
      rfl
    rw [e3, sq_b, sq_b] at e1
    refine m_word (d := d + 97) (lo := 28) (hi := 28) (ws := [ifV]) W6 M6 (by omega) (by decide) (fun x7 I7 f7 M7 _ _ => ?_)
    generalize hra : aft (sq (.inl s4) (wdP [ifV])) = ra at *
    refine m_take (d := d + 98) M7 (by decide) (fun I8 f8 M8 _ => ?_)
    generalize hrb : aft (sq ra (tkP 32)) = rb at *
    refine m_formula (d := d + 33) (vs := absV) (sl := 70) (Or.inl ⟨rfl, rfl⟩) (by omega) M8 (fun I9 f9 M9 c9 => ?_)
    obtain ⟨c0, hc0, e5⟩ := sq_v rb (cP absV 0)
    rw [e5, sq_b, sq_b, sq_b] at e1
    generalize hrc : aft (sq rb (cP absV 0)) = rc at *
    refine m_take (d := d + 98) M9 (by decide) (fun I10 f10 M10 _ => ?_)
    generalize hrd : aft (sq rc (tkP 32)) = rd at *
    have W10 : WRD I10 := (((W6.nf f7).nf f8).rd f9.rd).nf f10
    refine m_word (d := d + 97) (lo := 30) (hi := 30) (ws := [doV]) W10 M10 (by omega) (by decide) (fun x11 I11 f11 M11 _ _ => ?_)
    generalize hre : aft (sq rd (wdP [doV])) = re at *
    refine m_take (d := d + 98) M11 (by decide) (fun I12 f12 M12 _ => ?_)
    generalize hrf : aft (sq re (tkP 32)) = rf at *
    have e6 : plP (tT τ) = bnd (sq rf (cmP true)) (fun k s => (.inl ((x5, c0, k), s) : PR (Int32 × Tx × Cm))) := by
      rw [e1]
      cases rf <;> rfl
    have fI12 : SFt I I12 := fI.t.tr ((f7.s.tr f8.s).t.tr ((f9.t (by omega) (by omega)).tr (f10.s.tr (f11.s.tr f12.s)).t))
    refine m_ptail (d := d + 29) (A := PST1 (d + 99) D (qI (mm I D) K) (z32 (pn : Int)) x5) (B := fun I2 => qI (mm I D) K (some (vI (-100 - I2 106 4))) (mm I2 D)) h160 ((W10.nf f11).nf f12) M12 e6 (fun cm I2 h1 ok wc hs hC q2 t2 => ?_) (fun f I2 h1 fE t2 h6 => bad f I2 h1 (fI12.tr fE) t2 h6)
    obtain ⟨sf, hsf⟩ := hs
    obtain ⟨_, q6⟩ := aft_in (hrf.trans hsf)
    obtain ⟨se, hse⟩ := sq_in q6
    obtain ⟨_, q5⟩ := aft_in (hre.trans hse)
    obtain ⟨sd, hsd⟩ := sq_in q5
    obtain ⟨_, q4⟩ := aft_in (hrd.trans hsd)
    obtain ⟨sc, hsc⟩ := sq_in q4
    obtain ⟨c1, q3⟩ := aft_in (hrc.trans hsc)
    obtain rfl := hc0 c1 sc q3
    have hF : FMc I2 70 (encV c1) := (c9 c1 sc q3).mv (fun t _ _ => (q2 _ _ (by omega)).trans ((f12 _ _ (by omega)).trans ((f11 _ _ (by omega)).trans (f10 _ _ (by omega))))) ((q2 _ _ (by omega)).trans ((f12 _ _ (by omega)).trans ((f11 _ _ (by omega)).trans (f10 _ _ (by omega)))))
    have fE : SFt I I2 := fI12.tr q2.t
    refine PST1_ok (by omega) hC ((h.E.st fE).1) t2 hF (fun G g1 g2 g3 g4 => good c1 cm I2 G h1 ok wc fE g1 g2 ?_ (Or.inr ⟨g3.2.2.1, g4⟩))
    rw [g3.2.2.1]
    exact g3
  · -- without
    have e3 : plR x5 s4 = sq (.inl s4) (fun s => bnd (wdP [doV] s) (fun _ s => bnd (tkP 32 s) (fun _ s => bnd (cmP true s) (fun k s => (.inl ((x5, [1], k), s) : PR (Int32 × Tx × Cm)))))) := by
      unfold plR
      rw [ifdo_eq, if_neg cIf, sq_inl, bnd_as]
      rfl
    rw [e3, sq_b, sq_b] at e1
    refine m_word (d := d + 97) (lo := 30) (hi := 30) (ws := [doV]) W6 M6 (by omega) (by decide) (fun x7 I7 f7 M7 _ _ => ?_)
    generalize hra : aft (sq (.inl s4) (wdP [doV])) = ra at *
    refine m_take (d := d + 98) M7 (by decide) (fun I8 f8 M8 _ => ?_)
    generalize hrb : aft (sq ra (tkP 32)) = rb at *
    have e6 : plP (tT τ) = bnd (sq rb (cmP true)) (fun k s => (.inl ((x5, [1], k), s) : PR (Int32 × Tx × Cm))) := by
      rw [e1]
      cases rb <;> rfl
    have fI8 : SFt I I8 := (fI.tr (f7.s.tr f8.s)).t
    refine m_ptail (d := d + 29) (A := PST0 (d + 99) D (qI (mm I D) K) (z32 (pn : Int)) x5) (B := fun I2 => qI (mm I D) K (some (vI (-100 - I2 106 4))) (mm I2 D)) h160 ((W6.nf f7).nf f8) M8 e6 (fun cm I2 h1 ok wc hs hC q2 t2 => ?_) (fun f I2 h1 fE t2 h6 => bad f I2 h1 (fI8.tr fE) t2 h6)
    have fE : SFt I I2 := fI8.tr q2.t
    refine PST0_ok (by omega) hC ((h.E.st fE).1) t2 (fun G g1 g2 g3 => good [1] cm I2 G h1 ok wc fE g1 g2 ?_ (Or.inl ⟨g3.2.2.1, rfl⟩))
    rw [g3.2.2.1]
    exact g3
theorem q_policyOf {K : Int32 → IM → Prop} (h : RM τ I) (p w : Int32) (k : ∀ I2, FrC I I2 → RM τ I2 → K (S_policyOf τ p w) I2) : CI (d + 100) 254 [vR (some 106), vI p, vI w] (mm I D) K := by
  have k := k I FrC.rf h
  unfold S_policyOf at k
  refine s_M_policyOf _ _ ?_
  rw [e_mpol]
  refine br0 (fun hp => ?_) (fun hp => qI_i ?_)
  rotate_left
  · rw [if_neg (fun c => hp c.1)] at k
    exact k
  rw [e_in]
  refine br1 (fun hw => ?_) (fun hw => qI_i ?_)
  rotate_left
  · rw [if_neg (fun c => hw c.2)] at k
    exact k
  rw [if_pos ⟨hp, hw⟩] at k
  obtain ⟨pn, rfl, hpn⟩ := rng (m := 3) (by omega) hp
  rw [aN_z (by omega)] at k
  have hb : inB (z32 (pn : Int)) 4 := inB_n (by omega) (by omega)
  have hQ := h.Q pn (by omega)
  refine tsP_i hb ?_
  rw [ix_n (by omega)]
  cases hz : zQ (tS τ) pn with
  | none =>
    rw [hz] at hQ k
    have hQ : I 145 pn = 0 := hQ
    exact (brP_f (by rw [hQ]; decide)).mpr (qI_i k)
  | some x =>
    rw [hz] at hQ k
    dsimp only at k
    obtain ⟨q1, -, ⟨q2, q3, q4⟩, -⟩ := hQ
    refine (brP_t (by rw [q1]; decide)).mpr ?_
    rw [q2, q3, q4]
    refine brP_i (fun c => brP_i (fun c2 => tsP_i hb (qI_i ?_)) (fun c2 => tsP_i hb (qI_i ?_))) (fun c => tsP_i hb (qI_i ?_))
    · rw [if_neg c, if_neg c2] at k
      exact k
    · rw [if_neg c, if_pos (Classical.not_not.mp c2)] at k
      exact k
    · rw [if_pos (Classical.not_not.mp c)] at k
      exact k
end
