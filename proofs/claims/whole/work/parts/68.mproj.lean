/-! The model's projections: told, laid, rebuilt, swapped. -/
/-- a projection that was read -/
def PRM (I : IM) (x : Nat × Int32 × Nat × Tx) : Prop := I 106 56 = z32 (x.1 : Int) ∧ I 106 57 = x.2.1 ∧ I 106 58 = z32 (x.2.2.1 : Int) ∧ CNM I (I 106 59) 70 x.2.2.2
theorem m_rdproj {d : Nat} {I : IM} {D : DY} {A : Int32 → IM → Prop} {T : Tx} (hW : WRD I) (h : TPm I T)
    (ka : ∀ x I2, allP T (pjP T) = .inl x → (x.1 < 6 ∧ x.2.2.1 < 3 ∧ cWF 3 x.2.2.2) → PRM I2 x → SFt I I2 → TPm I2 [] → A (-1) I2)
    (kb : ∀ f I2, allP T (pjP T) = .inr f → SFt I I2 → TPm I2 [] → I2 106 4 = z32 (f : Int) → f ≤ 160 → A (z32 (f : Int)) I2) : CI (d + 67) 234 [vR (some 106)] (mm I D) A := by
  have h160 := h.2.1
  refine s_M_readProjection (m_begin h (fun I1 f1 M1 => ?_))
  have W1 := hW.nf f1
  obtain ⟨k0, hk0, e1⟩ := sq_v (.inl T) (wdP foldW)
  have e1 : pjP T = _ := e1 (fun f s => bnd (tkP 32 s) (fun _ s => bnd (wdP [[111, 102]] s) (fun _ s => bnd (tkP 32 s) (fun _ s => bnd (kdP s) (fun m s => bnd (tkP 32 s) (fun _ s => bnd (wdP [[98, 121]] s) (fun _ s => bnd (tkP 32 s) (fun _ s => bnd (wdP keyW s) (fun y s =>
    bnd (pjI s) (fun c s => (.inl ((f, m, y, c), s) : PR (Nat × Int32 × Nat × Tx))))))))))))
  rw [sq_b, sq_b, sq_b] at e1
  refine m_word (d := d + 64) (lo := 17) (hi := 22) (ws := foldW) W1 M1 (by omega) (by decide) (fun x2 I2 f2 M2 hv2 _ => ?_)
  generalize hr1 : aft (sq (.inl T) (wdP foldW)) = r1 at *
  have W2 : WRD (up2 I2 106 56 x2) := (W1.nf f2).sf (SFr.up (by unfold Sc; omega)).t
  refine m_take (d := d + 65) (M2.up (k := 56) (v := x2) (by omega)) (by decide) (fun I3 f3 M3 _ => ?_)
  generalize hr2 : aft (sq r1 (tkP 32)) = r2 at *
  have W3 := W2.nf f3
  refine m_word (d := d + 64) (lo := 26) (hi := 26) (ws := [[111, 102]]) W3 M3 (by omega) (by decide) (fun x4 I4 f4 M4 _ _ => ?_)
  generalize hr3 : aft (sq r2 (wdP [[111, 102]])) = r3 at *
  refine m_take (d := d + 65) M4 (by decide) (fun I5 f5 M5 _ => ?_)
  generalize hr4 : aft (sq r3 (tkP 32)) = r4 at *
  have W5 := (W3.nf f4).nf f5
  obtain ⟨m0, hm0, e2⟩ := sq_v r4 kdP
  rw [e2, sq_b, sq_b, sq_b] at e1
  refine m_kinds (d := d + 63) W5 M5 (fun x6 I6 f6 M6 hv6 => ?_)
  generalize hr5 : aft (sq r4 kdP) = r5 at *
  have W6 : WRD (up2 I6 106 57 x6) := (W5.nf f6).sf (SFr.up (by unfold Sc; omega)).t
  refine m_take (d := d + 65) (M6.up (k := 57) (v := x6) (by omega)) (by decide) (fun I7 f7 M7 _ => ?_)
  generalize hr6 : aft (sq r5 (tkP 32)) = r6 at *
  have W7 := W6.nf f7
  refine m_word (d := d + 64) (lo := 27) (hi := 27) (ws := [[98, 121]]) W7 M7 (by omega) (by decide) (fun x8 I8 f8 M8 _ _ => ?_)
  generalize hr7 : aft (sq r6 (wdP [[98, 121]])) = r7 at *
  refine m_take (d := d + 65) M8 (by decide) (fun I9 f9 M9 _ => ?_)
  generalize hr8 : aft (sq r7 (tkP 32)) = r8 at *
  have W9 := (W7.nf f8).nf f9
  obtain ⟨y0, hy0, e3⟩ := sq_v r8 (wdP keyW)
  rw [e3] at e1
  refine m_word (d := d + 64) (lo := 23) (hi := 25) (ws := keyW) W9 M9 (by omega) (by decide) (fun x10 I10 f10 M10 hv10 _ => ?_)
  generalize hr9 : aft (sq r8 (wdP keyW)) = r9 at *
  have W10 := W9.nf f10
  have e1 : pjP T = bnd (sq r9 pjI) (fun c s => (.inl ((k0, m0, y0, c), s) : PR (Nat × Int32 × Nat × Tx))) := by
    rw [e1]
    cases r9 <;> rfl
  have fI : SFt I I10 := f1.s.t.tr (f2.s.t.tr ((SFr.up (k := 56) (by unfold Sc; omega)).t.tr (f3.s.t.tr (f4.s.t.tr (f5.s.t.tr (f6.s.t.tr ((SFr.up (k := 57) (by unfold Sc; omega)).t.tr (f7.s.t.tr (f8.s.t.tr (f9.s.t.tr f10.s.t))))))))))
  -- what the fields are, when all before was read
  have fld : ∀ s, r9 = .inl s → I10 106 56 = z32 (k0 : Int) ∧ I10 106 57 = m0 ∧ x10 = z32 (y0 : Int) := fun s hs => by
    obtain ⟨y1, q9⟩ := aft_in (hr9.trans hs)
    obtain ⟨s8, hs8⟩ := sq_in q9
    obtain ⟨_, q8⟩ := aft_in (hr8.trans hs8)
    obtain ⟨s7, hs7⟩ := sq_in q8
    obtain ⟨_, q7⟩ := aft_in (hr7.trans hs7)
    obtain ⟨s6, hs6⟩ := sq_in q7
    obtain ⟨_, q6⟩ := aft_in (hr6.trans hs6)
    obtain ⟨s5, hs5⟩ := sq_in q6
    obtain ⟨m1, q5⟩ := aft_in (hr5.trans hs5)
    obtain ⟨s4, hs4⟩ := sq_in q5
    obtain ⟨_, q4⟩ := aft_in (hr4.trans hs4)
    obtain ⟨s3, hs3⟩ := sq_in q4
    obtain ⟨_, q3⟩ := aft_in (hr3.trans hs3)
    obtain ⟨s2, hs2⟩ := sq_in q3
    obtain ⟨_, q2⟩ := aft_in (hr2.trans hs2)
    obtain ⟨s1, hs1⟩ := sq_in q2
    obtain ⟨k1, q1⟩ := aft_in (hr1.trans hs1)
    refine ⟨?_, ?_, ?_⟩
    · rw [f10 _ _ (by omega), f9 _ _ (by omega), f8 _ _ (by omega), f7 _ _ (by omega), up2_nj (by omega), f6 _ _ (by omega), f5 _ _ (by omega), f4 _ _ (by omega), f3 _ _ (by omega), up2_eq, hv2 k1 s1 q1, hk0 k1 s1 q1]
    · rw [f10 _ _ (by omega), f9 _ _ (by omega), f8 _ _ (by omega), f7 _ _ (by omega), up2_eq, hv6 m1 s5 q5, hm0 m1 s5 q5]
    · rw [hv10 y1 s q9, hy0 y1 s q9]
  have fB : SFr I10 (up2 (up2 I10 106 58 x10) 106 59 0) := (SFr.up (by unfold Sc; omega)).tr (SFr.up (by unfold Sc; omega))
  have MB : MP (up2 (up2 I10 106 58 x10) 106 59 0) T r9 := (M10.up (by omega)).up (by omega)
  -- the end, when what follows was read
  have fin : ∀ (J : IM) (q : PR Tx), sq r9 pjI = q → SFt I10 J → MP J T (aft q) → (∀ c s, q = .inl (c, s) → PRM J (k0, m0, y0, c)) → CI (d + 66) 188 [vR (some 106)] (mm J D) (fun x I2 => qI (mm I D) A (some (vI x)) (mm I2 D)) := fun J q hq f M hc => by
    rw [hq] at e1
    have e4 : aft (pjP T) = aft q := by rw [e1]; exact aft_m _ (fun c => (k0, m0, y0, c))
    rw [← e4] at M
    refine m_end_go M (fun x I2 h1 h2 h3 h4 => qI_i ?_) (fun f2 I2 h1 h3 h4 h5 h6 => qI_i (kb f2 I2 h1 (fI.tr (f.tr h3.t)) h4 h6 h5))
    obtain ⟨w1, w2, w3, w4⟩ := pjP_wf h160 h2
    rw [e1] at h2
    obtain ⟨c, s1, q1, q2⟩ := bnd_inv h2
    cases q2
    obtain ⟨p1, p2, p3, p4⟩ := hc c [] q1
    refine ka _ I2 h1 ⟨w1, w2, w3⟩ ⟨(h3 _ _ (by omega)).trans p1, (h3 _ _ (by omega)).trans p2, (h3 _ _ (by omega)).trans p3, ?_⟩ (fI.tr (f.tr h3.t)) h4
    rw [h3 106 59 (by omega)]
    exact p4.mv (fun t _ _ => h3 _ _ (by omega)) (h3 _ _ (by omega))
  rcases r9 with s | m
  rotate_left
  · have hfl : ¬ I10 106 4 < 0 := fun c => by
      obtain ⟨s, e⟩ := M10.fl.mp c
      cases e
    exact (brP_t (Int32.not_lt.mp hfl)).mpr (fin _ (.inr m) rfl fB.t MB (fun c s q => by cases q))
  obtain ⟨g56, g57, g58⟩ := fld s rfl
  refine (brP_f (by rw [M10.in.2.2]; decide)).mpr ?_
  rw [e_here MB]
  have b56 : up2 (up2 I10 106 58 x10) 106 59 0 106 56 = z32 (k0 : Int) := by rw [up2_nj (by omega), up2_nj (by omega)]; exact g56
  have b57 : up2 (up2 I10 106 58 x10) 106 59 0 106 57 = m0 := by rw [up2_nj (by omega), up2_nj (by omega)]; exact g57
  have b58 : up2 (up2 I10 106 58 x10) 106 59 0 106 58 = z32 (y0 : Int) := by rw [up2_nj (by omega), up2_eq]; exact g58
  have b59 : up2 (up2 I10 106 58 x10) 106 59 0 106 59 = 0 := up2_eq
  refine brP_i (fun c => ?_) (fun c => ?_)
  · have ep : pjI s = .inl ([1], s) := by
      cases s with
      | nil => rfl
      | cons x t =>
        show (if x = 32 then _ else _) = _
        rw [if_neg (show ¬ x = 32 from c)]
    refine fin _ (.inl ([1], s)) (by rw [sq_inl]; exact ep) fB.t MB (fun c s q => ?_)
    cases q
    exact ⟨b56, b57, b58, Or.inl ⟨b59, rfl⟩⟩
  · cases s with
    | nil => exact absurd c (by decide)
    | cons x t =>
      have c : x = 32 := Classical.not_not.mp c
      have ep : pjI (x :: t) = bnd (wdP [[105, 102]] t) (fun _ s => bnd (tkP 32 s) (fun _ s => cP absV 0 s)) := by
        show (if x = 32 then _ else _) = _
        rw [if_pos c]
      generalize hJ : up2 (up2 I10 106 58 x10) 106 59 0 = J at *
      have hn := (MB.up (k := 59) (v := 1) (by omega)).next.1
      rw [up2_nj (by omega)] at hn
      have fN : SFr J (up2 (up2 J 106 59 1) 106 3 (J 106 3 + 1)) := (SFr.up (by unfold Sc; omega)).tr (SFr.up (by unfold Sc; omega))
      have WN : WRD (up2 (up2 J 106 59 1) 106 3 (J 106 3 + 1)) := W10.sf (fB.tr fN).t
      refine m_word (d := d + 64) (lo := 28) (hi := 28) (ws := [[105, 102]]) WN hn (by omega) (by decide) (fun x14 I14 f14 M14 _ _ => ?_)
      refine m_take (d := d + 65) M14 (by decide) (fun I15 f15 M15 _ => ?_)
      refine m_formula (d := d) (vs := absV) (sl := 70) (Or.inl ⟨rfl, rfl⟩) (by omega) M15 (fun I16 f16 M16 c16 => ?_)
      have eP : pjI (x :: t) = sq (aft (sq (aft (sq (.inl t) (wdP [[105, 102]]))) (tkP 32))) (cP absV 0) := by
        rw [ep, ← sq_b, ← sq_b]
        rfl
      refine fin _ (pjI (x :: t)) rfl (fB.t.tr (fN.t.tr (f14.s.t.tr (f15.s.t.tr (f16.t (by omega) (by omega)))))) (by rw [eP]; exact M16) (fun co s q => ?_)
      have g : ∀ k, 56 ≤ k → k ≤ 58 → I16 106 k = J 106 k := fun k h1 h2 => by
        rw [f16 _ _ (by omega), f15 _ _ (by omega), f14 _ _ (by omega), up2_nj (by omega), up2_nj (by omega)]
      refine ⟨(g 56 (by omega) (by omega)).trans b56, (g 57 (by omega) (by omega)).trans b57, (g 58 (by omega) (by omega)).trans b58, Or.inr ⟨?_, c16 co s (by rw [← eP]; exact q)⟩⟩
      rw [f16 _ _ (by omega), f15 _ _ (by omega), f14 _ _ (by omega), up2_nj (by omega), up2_eq]
/-- what the laying of a projection may change -/
def LFr (f : Nat) (I I2 : IM) : Prop := ∀ q k, ¬ ((135 ≤ q ∧ q ≤ 140 ∧ k = f) ∨ ((q = 141 ∨ q = 142) ∧ 9 * f ≤ k ∧ k < 9 * f + 9) ∨ (q = 109 ∧ 245 * (54 + f) ≤ k ∧ k < 245 * (54 + f) + 245) ∨ (q = 110 ∧ k = 54 + f)) → I2 q k = I q k
theorem LFr.rf {f : Nat} {I : IM} : LFr f I I := fun _ _ _ => rfl
theorem LFr.tr {f : Nat} {I I2 I3 : IM} (h : LFr f I I2) (h2 : LFr f I2 I3) : LFr f I I3 := fun q k e => (h2 q k e).trans (h q k e)
theorem c_mbegin {d : Nat} {I : IM} {D : DY} {K : IM → Prop} {f : Nat} (hf : f < 8) (k : ∀ I2, (∀ q k, ¬ (((q = 135 ∨ q = 140) ∧ k = f) ∨ ((q = 141 ∨ q = 142) ∧ 9 * f ≤ k ∧ k < 9 * f + 9)) → I2 q k = I q k) → I2 135 f = 1 → I2 140 f = 0 → (∀ j, j < 9 → I2 141 (9 * f + j) = 0) → K I2) : CV d 239 [vR (some 106), vI (z32 (f : Int))] (mm I D) K := by
  have hb : inB (z32 (f : Int)) 8 := inB_n hf (by omega)
  have loop : ∀ (g j : Nat) (J : IM), j + g = 9 → (∀ q k, ¬ (((q = 135 ∨ q = 140) ∧ k = f) ∨ ((q = 141 ∨ q = 142) ∧ 9 * f ≤ k ∧ k < 9 * f + 9)) → J q k = I q k) → J 135 f = 1 → J 140 f = 0 → (∀ i, i < j → J 141 (9 * f + i) = 0) → Wp GG d 239 16 [vR (some 106), vI (z32 (f : Int)), vI (z32 (j : Int))] [] (mm J D) (qV (mm I D) K) := by
    intro g
    induction g with
    | zero =>
      intro j J hj fr a b c
      obtain rfl : j = 9 := by omega
      exact s_M_begin_16 _ _ ((brP_t (by decide)).mpr ⟨_, rfl, rfl, k J fr a b c⟩)
    | succ g ih =>
      intro j J hj fr a b c
      refine s_M_begin_16 _ _ ((brP_f (by show ¬ z32 9 ≤ _; rw [z32_le] <;> omega)).mpr ?_)
      rw [mul9, addn]
      refine tsP_i (inB_n (by omega) (by omega)) (tsP_i (inB_n (by omega) (by omega)) ?_)
      rw [ix_n (by omega), z32_s]
      refine ih (j + 1) _ (by omega) (fun q i h => ?_) (by rw [up2_ne (by omega), up2_ne (by omega)]; exact a) (by rw [up2_ne (by omega), up2_ne (by omega)]; exact b) (fun i hi => ?_)
      · rw [up2_if, if_neg (by omega), up2_if, if_neg (by omega)]
        exact fr q i h
      · by_cases q : i = j
        · rw [q, up2_ne (by omega), up2_eq]
        · rw [up2_ne (by omega), up2_nj (by omega)]
          exact c i (by omega)
  refine s_M_begin _ (tsP_i hb (tsP_i hb ?_))
  rw [ix_n (by omega)]
  exact loop 9 0 _ rfl (fun q i h => by rw [up2_if, if_neg (by omega), up2_if, if_neg (by omega)]) (by rw [up2_ne (by omega), up2_eq]) up2_eq (fun i hi => absurd hi (Nat.not_lt_zero _))
theorem c_mlay {d : Nat} {I : IM} {D : DY} {K : IM → Prop} {x : Nat × Int32 × Nat × Tx} {p w : Nat} (hx : PRM I x) (wf : x.1 < 6 ∧ x.2.2.1 < 3 ∧ cWF 3 x.2.2.2) (ht : TPm I []) (hp : p < 4) (hw : w < 2) (k : ∀ I2, LFr (2 * p + w) I I2 → TPm I2 [] → PJM I2 (2 * p + w) (some (newX x)) → K I2) :
    CV (d + 1) 237 [vR (some 106), vI (z32 (p : Int)), vI (z32 (w : Int))] (mm I D) K := by
  obtain ⟨x1, x2, x3, x4⟩ := hx
  have hb : inB (z32 ((2 * p + w : Nat) : Int)) 8 := inB_n (by omega) (by omega)
  refine s_M_layProjection _ _ ?_
  rw [mul2, addn]
  refine tsP_i hb (tsP_i hb (tsP_i hb (tsP_i hb ?_)))
  rw [ix_n (by omega), x1, x2, x3]
  obtain ⟨f, hf⟩ : ∃ f, f = 2 * p + w := ⟨_, rfl⟩
  rw [← hf]
  rw [← hf] at k
  have hf8 : f < 8 := by omega
  generalize hJ : up2 (up2 (up2 (up2 I 136 f (z32 (x.1 : Int))) 137 f x.2.1) 138 f (z32 (x.2.2.1 : Int))) 139 f (I 106 59) = J
  have fJ : ∀ q k, ¬ (136 ≤ q ∧ q ≤ 139 ∧ k = f) → J q k = I q k := fun q j h => by rw [← hJ, up2_if, if_neg (by omega), up2_if, if_neg (by omega), up2_if, if_neg (by omega), up2_if, if_neg (by omega)]
  have j136 : J 136 f = z32 (x.1 : Int) := by rw [← hJ, up2_ne (by omega), up2_ne (by omega), up2_ne (by omega), up2_eq]
  have j137 : J 137 f = x.2.1 := by rw [← hJ, up2_ne (by omega), up2_ne (by omega), up2_eq]
  have j138 : J 138 f = z32 (x.2.2.1 : Int) := by rw [← hJ, up2_ne (by omega), up2_eq]
  have j139 : J 139 f = I 106 59 := by rw [← hJ, up2_eq]
  have tJ : TPm J [] := ht.fr (fJ _ _ (by omega)) (fun k => fJ _ _ (by omega))
  have fin : ∀ G : IM, LFr f I G → TPm G [] → (∀ q, 136 ≤ q → q ≤ 139 → G q f = J q f) → CNM G (I 106 59) (54 + f) x.2.2.2 → CV d 239 [vR (some 106), vI (z32 (f : Int))] (mm G D) (fun I1 => qV (mm I D) K none (mm I1 D)) := fun G fG tG eG cG => by
    refine c_mbegin hf8 (fun I2 g a b c => qV_i (k I2 (fG.tr (fun q k e => g q k (by omega))) (tG.fr (g _ _ (by omega)) (fun k => g _ _ (by omega))) ⟨a, ⟨?_, ?_, ?_, ?_, b⟩, fun j hj => c j hj, wf.1, wf.2.1, Nat.zero_le _, wf.2.2⟩))
    · rw [g _ _ (by omega), eG _ (by omega) (by omega)]; exact j136
    · rw [g _ _ (by omega), eG _ (by omega) (by omega)]; exact j137
    · rw [g _ _ (by omega), eG _ (by omega) (by omega)]; exact j138
    · rw [g 139 _ (by omega), eG _ (by omega) (by omega), j139]
      exact cG.mv (fun t _ _ => g _ _ (by omega)) (g _ _ (by omega))
  have fL : LFr f I J := fun q k e => fJ q k (by omega)
  refine brP_i (fun c => fin J fL tJ (fun _ _ _ => rfl) ?_) (fun c => ?_)
  · rcases x4 with x4 | x4
    · exact Or.inl x4
    · exact absurd x4.1 c
  · have c : I 106 59 = 1 := Classical.not_not.mp c
    have hF : FMc I 70 (encV x.2.2.2) := by
      rcases x4 with x4 | x4
      · rw [x4.1] at c
        exact absurd c (by decide)
      · exact x4.2
    have hs : CI d 238 [vI (z32 (p : Int)), vI (z32 (w : Int))] (mm J D) (fun y I2 => y = z32 ((54 + f : Nat) : Int) ∧ I2 = J) := s_M_projectionSlot _ _ (qI_i ⟨by rw [mul2]; show z32 ((54 : Nat) : Int) + _ + _ = _; rw [addn, addn]; congr 2; omega, rfl⟩)
    rw [CI_iff hs]
    refine c_mcopy (a := 70) tJ.2.2.2.2 (by omega) (by omega) (by omega) (fun I3 p3 => ?_)
    have g3 := p3.1
    refine fin I3 (fL.tr (fun q k e => g3 q k (by omega))) (p3.tp (by omega) tJ) (fun q a b => g3 _ _ (by omega)) (Or.inr ⟨c, p3.fm (hF.mv (fun t _ _ => fJ _ _ (by omega)) (fJ _ _ (by omega)))⟩)
/-- one of two places of a projection is set -/
theorem RMP.set {P : Nat → Nat → Option PJ} {I I2 : IM} {p w : Nat} {e : Option PJ} (h : RMP P I) (hp : p < 4) (hw : w < 2) (f : LFr (2 * p + w) I I2) (he : PJM I2 (2 * p + w) e) (hn : (w = 0 → e = none → P 1 p = none) ∧ (w = 1 → P 0 p = none → e = none)) : RMP (fun w2 p2 => if w2 = w ∧ p2 = p then e else P w2 p2) I2 := by
  refine ⟨fun w2 p2 hw2 hp2 => ?_, fun p2 hp2 h0 => ?_⟩
  · show PJM I2 (2 * p2 + w2) (if w2 = w ∧ p2 = p then e else P w2 p2)
    by_cases q : w2 = w ∧ p2 = p
    · rw [if_pos q, q.1, q.2]
      exact he
    · rw [if_neg q]
      have hne : 2 * p2 + w2 ≠ 2 * p + w := fun c => q ⟨by omega, by omega⟩
      exact (h.1 w2 p2 hw2 hp2).mv (by omega) (fun q _ _ => f _ _ (by omega)) (fun q k _ _ _ => f _ _ (by omega)) (fun k _ _ => f _ _ (by omega)) (f _ _ (by omega))
  · have h0 : (if 0 = w ∧ p2 = p then e else P 0 p2) = none := h0
    show (if 1 = w ∧ p2 = p then e else P 1 p2) = none
    by_cases q : 1 = w ∧ p2 = p
    · rw [if_pos q]
      rw [if_neg (by omega)] at h0
      rw [q.2] at h0
      exact hn.2 q.1.symm h0
    · rw [if_neg q]
      by_cases q2 : 0 = w ∧ p2 = p
      · rw [if_pos q2] at h0
        rw [q2.2]
        exact hn.1 q2.1.symm h0
      · rw [if_neg q2] at h0
        exact h.2 p2 hp2 h0
theorem RMS.pj {σ : SS} {I I2 : IM} {p w : Nat} {e : Option PJ} (h : RMS σ I) (hp : p < 4) (hw : w < 2) (f : LFr (2 * p + w) I I2) (he : PJM I2 (2 * p + w) e) (hn : (w = 0 → e = none → zP σ 1 p = none) ∧ (w = 1 → zP σ 0 p = none → e = none)) : RMS (setPJ σ w p e) I2 := by
  obtain ⟨cE, cC, cN, cA, cP2, cQ, cY, cD, cV, cH⟩ := h
  exact ⟨cE.mv (fun q j z => f q j (by unfold ZE at z; omega)), cC.mv (fun q j z => f q j (by unfold ZC at z; omega)), cN.mv (fun q j z => f q j (by unfold ZS at z; omega)), fun j hj => (f _ _ (by omega)).trans (cA j hj), cP2.set hp hw f he hn, cQ.mv (fun q j z => f q j (by unfold ZQ at z; omega)), cY.mv (fun q j z => f q j (by unfold ZY at z; omega)), fun j hj => (f _ _ (by omega)).trans (cD j hj), (f _ _ (by omega)).trans cV, (f _ _ (by omega)).trans cH⟩
theorem LFr.c {f : Nat} {I I2 : IM} (h : LFr f I I2) : FrC I I2 := fun q k e => h q k (by omega)
theorem WRD.l {f : Nat} {I I2 : IM} (h : WRD I) (hf : LFr f I I2) : WRD I2 := h.fr (fun k => hf _ _ (by omega))
theorem IMP.l {f : Nat} {κ : Option SS} {I I2 : IM} (h : IMP κ I) (hf : LFr f I I2) (h8 : f < 8) : IMP κ I2 := h.mv (hf _ _ (by omega)) (fun k => hf _ _ (by omega)) (fun k hk => hf _ _ (by omega)) (fun k hk => hf _ _ (by omega))
section
variable {d : Nat} {I : IM} {D : DY} {τ : ST}
/-- a projection that was read is laid, the one beside is cleared -/
theorem q_project {K : Int32 → IM → Prop} (h : RM τ I) (p : Int32) (k : ∀ I2, FrC I I2 → RM (S_project τ p).1 I2 → K (S_project τ p).2 I2) : CI (d + 100) 232 [vR (some 106), vI p] (mm I D) K := by
  unfold S_project at k
  refine s_M_project _ ?_
  rw [e_mproj]
  refine br1 (fun hp => ?_) (fun hp => qI_i ?_)
  rotate_left
  · rw [if_neg hp] at k
    exact k I FrC.rf h
  rw [if_pos hp] at k
  obtain ⟨pn, rfl, hpn⟩ := rng (m := 3) (by omega) hp
  rw [aN_z (by omega)] at k
  refine m_rdproj (d := d + 32) h.2.1 h.1 (fun x I2 h1 wf hx f2 t2 => ?_) (fun f I2 h1 f2 t2 g4 hf => ?_)
  rotate_left
  · rw [h1] at k
    refine (brP_f (by rw [z32_0, z32_lt] <;> omega)).mpr (qI_i ?_)
    rw [fl_eq g4]
    exact k I2 f2.c (h.tp f2 t2)
  rw [h1] at k
  have k : ∀ J, FrC I J → RM ([], setPJ (setPJ (tS τ) 0 pn (some (newX x))) 1 pn none, tI τ) J → K 1 J := k
  refine (brP_t (by decide)).mpr ?_
  refine c_mlay (d := d + 98) (w := 0) hx wf t2 (by omega) (by omega) (fun I3 f3 t3 p3 => ?_)
  rw [mul2, z32_s]
  refine tsP_i (inB_n (by omega) (by omega)) (qI_i ?_)
  rw [ix_n (by omega)]
  have R3 := (h.2.2.1.st f2).pj (p := pn) (w := 0) (by omega) (by omega) f3 p3 ⟨(fun _ c => by cases c), (fun c => by omega)⟩
  have f4 : LFr (2 * pn + 1) I3 (up2 I3 135 (2 * pn + 1) 0) := fun q j c => by rw [up2_if, if_neg (by omega)]
  refine k _ ((f2.c.tr f3.c).tr f4.c) ⟨t3.fr (up2_ne (by omega)) (fun j => up2_ne (by omega)), ((h.2.1.sf f2).l f3).l f4, R3.pj (p := pn) (w := 1) (by omega) (by omega) f4 up2_eq ⟨(fun c => by omega), fun _ _ => rfl⟩, ((h.2.2.2.st f2).l f3 (by omega)).l f4 (by omega)⟩
theorem q_rebuild {K : Int32 → IM → Prop} (h : RM τ I) (p : Int32) (k : ∀ I2, FrC I I2 → RM (S_rebuild τ p).1 I2 → K (S_rebuild τ p).2 I2) : CI (d + 100) 240 [vR (some 106), vI p] (mm I D) K := by
  have h160 := h.1.2.1
  unfold S_rebuild at k
  refine s_M_rebuild _ ?_
  rw [e_mproj]
  refine br1 (fun hp => ?_) (fun hp => qI_i ?_)
  rotate_left
  · rw [if_neg hp] at k
    exact k I FrC.rf h
  rw [if_pos hp] at k
  obtain ⟨pn, rfl, hpn⟩ := rng (m := 3) (by omega) hp
  rw [aN_z (by omega)] at k
  have hP := h.P.1 0 pn (by omega) (by omega)
  rw [Nat.add_zero] at hP
  have hb0 : inB (z32 ((2 * pn : Nat) : Int)) 8 := inB_n (by omega) (by omega)
  have hb1 : inB (z32 ((2 * pn + 1 : Nat) : Int)) 8 := inB_n (by omega) (by omega)
  rw [mul2, z32_s]
  refine tsP_i hb0 ?_
  rw [ix_n (n := 2 * pn) (by omega)]
  cases hz : zP (tS τ) 0 pn with
  | none =>
    rw [hz] at hP k
    have hP : I 135 (2 * pn) = 0 := hP
    exact (brP_f (by rw [hP]; decide)).mpr (qI_i (k I FrC.rf h))
  | some x =>
    rw [hz] at hP k
    obtain ⟨p0, hX⟩ := hP
    refine (brP_t (by rw [p0]; decide)).mpr ?_
    dsimp only at k
    rw [h.1.1]
    refine brP_i (fun c => ?_) (fun c => ?_)
    · rw [z32_0, z32_le (by omega) (by omega) (by omega) (by omega)] at c
      rw [if_pos (by omega)] at k
      have k : ∀ J, FrC I J → RM (tT τ, setPJ (tS τ) 1 pn (some (newJ x)), tI τ) J → K 1 J := k
      refine tsP_i hb0 (tsP_i hb1 (tsP_i hb0 (tsP_i hb1 (tsP_i hb0 (tsP_i hb1 (tsP_i hb0 (tsP_i hb1 ?_)))))))
      rw [ix_n (by omega)]
      obtain ⟨f, hf⟩ : ∃ f, f = 2 * pn := ⟨_, rfl⟩
      rw [← hf]
      rw [← hf] at hX
      have hs0 : ∀ J : IM, CI (d + 99) 238 [vI (z32 (pn : Int)), vI 0] (mm J D) (fun y I2 => y = z32 ((54 + f : Nat) : Int) ∧ I2 = J) := fun J => s_M_projectionSlot _ _ (qI_i ⟨by rw [mul2]; show z32 ((54 : Nat) : Int) + _ + z32 ((0 : Nat) : Int) = _; rw [addn, addn]; congr 2; omega, rfl⟩)
      have hs1 : ∀ J : IM, CI (d + 99) 238 [vI (z32 (pn : Int)), vI 1] (mm J D) (fun y I2 => y = z32 ((54 + (f + 1) : Nat) : Int) ∧ I2 = J) := fun J => s_M_projectionSlot _ _ (qI_i ⟨by rw [mul2]; show z32 ((54 : Nat) : Int) + _ + z32 ((1 : Nat) : Int) = _; rw [addn, addn]; congr 2; omega, rfl⟩)
      rw [CI_iff (hs0 _), CI_iff (hs1 _)]
      generalize hJ : up2 (up2 (up2 (up2 I 136 (f + 1) (I 136 f)) 137 (f + 1) (I 137 f)) 138 (f + 1) (I 138 f)) 139 (f + 1) (I 139 f) = J
      have fJ : ∀ q k, ¬ (136 ≤ q ∧ q ≤ 139 ∧ k = f + 1) → J q k = I q k := fun q j h => by rw [← hJ, up2_if, if_neg (by omega), up2_if, if_neg (by omega), up2_if, if_neg (by omega), up2_if, if_neg (by omega)]
      have eJ : J 136 (f + 1) = I 136 f ∧ J 137 (f + 1) = I 137 f ∧ J 138 (f + 1) = I 138 f ∧ J 139 (f + 1) = I 139 f := by
        rw [← hJ]
        exact ⟨by rw [up2_ne (by omega), up2_ne (by omega), up2_ne (by omega), up2_eq], by rw [up2_ne (by omega), up2_ne (by omega), up2_eq], by rw [up2_ne (by omega), up2_eq], up2_eq⟩
      have tJ : TPm J (tT τ) := h.1.fr (fJ _ _ (by omega)) (fun k => fJ _ _ (by omega))
      refine c_mcopy (a := 54 + f) tJ.2.2.2.2 (by omega) (by omega) (by omega) (fun I3 p3 => ?_)
      have g3 := p3.1
      have t3 := p3.tp (by omega) tJ
      have f8 : f + 1 < 8 := by omega
      refine c_mbegin f8 (fun I4 g4 a b c => qI_i ?_)
      obtain ⟨⟨x1, x2, x3, x4, x5⟩, xr, xf, xy, xp, xc⟩ := hX
      have fL : LFr (2 * pn + 1) I I4 := fun q j e => (g4 q j (by omega)).trans ((g3 q j (by omega)).trans (fJ q j (by omega)))
      have val : ∀ q, 136 ≤ q → q ≤ 139 → I4 q (f + 1) = J q (f + 1) := fun q _ _ => (g4 _ _ (by omega)).trans (g3 _ _ (by omega))
      refine k I4 fL.c ⟨t3.fr (g4 _ _ (by omega)) (fun j => g4 _ _ (by omega)), h.2.1.l fL, h.2.2.1.pj (w := 1) (by omega) (by omega) fL ?_ ⟨fun c => by omega, fun _ c => by rw [hz] at c; cases c⟩, h.2.2.2.l fL (by omega)⟩
      rw [← hf]
      refine ⟨a, ⟨?_, ?_, ?_, ?_, b⟩, fun j hj => c j hj, xf, xy, Nat.zero_le _, xc⟩
      · rw [val _ (by omega) (by omega), eJ.1]; exact x1
      · rw [val _ (by omega) (by omega), eJ.2.1]; exact x2
      · rw [val _ (by omega) (by omega), eJ.2.2.1]; exact x3
      · rw [val _ (by omega) (by omega), eJ.2.2.2]
        rcases x4 with x4 | x4
        · exact Or.inl x4
        · exact Or.inr ⟨x4.1, (p3.fm (x4.2.mv (fun t _ _ => fJ _ _ (by omega)) (fJ _ _ (by omega)))).mv (fun t _ _ => g4 _ _ (by omega)) (g4 _ _ (by omega))⟩
    · rw [z32_0, z32_le (by omega) (by omega) (by omega) (by omega)] at c
      rw [if_neg (by omega)] at k
      refine m_rdproj (d := d + 32) h.2.1 h.1 (fun y I2 h1 wf hx f2 t2 => ?_) (fun f I2 h1 f2 t2 g4 hf => ?_)
      rotate_left
      · rw [h1] at k
        refine (brP_f (by rw [z32_0, z32_lt] <;> omega)).mpr (qI_i ?_)
        rw [fl_eq g4]
        exact k I2 f2.c (h.tp f2 t2)
      rw [h1] at k
      have k : ∀ J, FrC I J → RM ([], setPJ (tS τ) 1 pn (some (newX y)), tI τ) J → K 1 J := k
      refine (brP_t (by decide)).mpr ?_
      refine c_mlay (d := d + 98) (w := 1) hx wf t2 (by omega) (by omega) (fun I3 f3 t3 p3 => qI_i ?_)
      exact k _ (f2.c.tr f3.c) ⟨t3, (h.2.1.sf f2).l f3, (h.2.2.1.st f2).pj (p := pn) (w := 1) (by omega) (by omega) f3 p3 ⟨(fun c => by omega), (fun _ c => by rw [hz] at c; cases c)⟩, (h.2.2.2.st f2).l f3 (by omega)⟩
end
