/-! The model's lines, all of a tape. -/
theorem m_line {d : Nat} {I : IM} {D : DY} {K : IM → Prop} {T s : Tx} {l : List LN} (hW : WRD I) (hl : LNM I l) (hl40 : l.length < 40) (hx : ∀ x ∈ l, okLn x ∧ x.2.2.2.2 = none) (h : MP I T (.inl s))
    (k : ∀ I2, SFt I I2 → MP I2 T (aft (lnP s)) → (∀ x s2, lnP s = .inl (x, s2) → LNM I2 (l ++ [x])) → K I2) : CV (d + 71) 216 [vR (some 106)] (mm I D) K := by
  obtain ⟨l1, l2, l3⟩ := id hl
  have e : lnP s = bnd (nbP 7 s) (fun v s => bnd (tkP 58 s) (fun _ s => bnd (cmP false s) (fun c s => (.inl ((v.toNat, c), s) : PR LN)))) := rfl
  have hlen : (inB (I 106 37) 40) := l1 ▸ inB_n hl40 (by omega)
  refine s_M_readLine ?_
  refine m_number (most := 7) (by omega) (by omega) h (fun x I1 f1 M1 hv => tsP_i hlen ?_)
  rw [l1, ix_n (by omega)]
  have f2 : SFr I (up2 I1 127 l.length x) := f1.s.tr (SFr.up (by unfold Sc; omega))
  have M2 : MP (up2 I1 127 l.length x) T (aft (sq (.inl s) (nbP 7))) := M1.mv (SFr.up (by unfold Sc; omega)) (up2_ne (by omega)) (up2_ne (by omega))
  refine m_take M2 (by decide) (fun I3 f3 M3 _ => ?_)
  refine m_command (d := d) (sl := 70) (pol := false) (hW.sf (f2.tr f3.s).t) (by omega) M3 (fun I4 f4 M4 c4 => ?_)
  have fI4 : SFt I I4 := (f2.tr f3.s).t.tr (f4.t (by omega) (by omega))
  have e2 : lnP s = sq (.inl s) lnP := rfl
  obtain ⟨v0, hv0, ev⟩ := sq_v (.inl s) (nbP 7)
  have ev := ev (fun v s => bnd (tkP 58 s) (fun _ s => bnd (cmP false s) (fun c s => (.inl ((v.toNat, c), s) : PR LN))))
  rw [sq_b] at ev
  have ev : lnP s = sq (aft (sq (aft (sq (.inl s) (nbP 7))) (tkP 58))) (fun s => bnd (cmP false s) (fun c s => (.inl ((v0.toNat, c), s) : PR LN))) := ev
  generalize hr3 : aft (sq (aft (sq (.inl s) (nbP 7))) (tkP 58)) = r3 at *
  have e5 : lnP s = bnd (sq r3 (cmP false)) (fun c s => (.inl ((v0.toNat, c), s) : PR LN)) := by
    rw [ev]
    cases r3 <;> rfl
  rw [e5] at k
  rw [aft_m (sq r3 (cmP false)) (fun c => (v0.toNat, c))] at k
  cases hc : sq r3 (cmP false) with
  | inr m =>
    rw [hc] at M4 k
    have M4 : MP I4 T (.inr m) := M4
    have hfl : ¬ I4 106 4 < 0 := fun c => by
      obtain ⟨s, e⟩ := M4.fl.mp c
      cases e
    exact (brP_f hfl).mpr (qV_i (k I4 fI4 M4 (fun x s2 q => by cases q)))
  | inl q =>
    obtain ⟨cm, s2⟩ := q
    rw [hc] at M4 k
    have M4 : MP I4 T (.inl s2) := M4
    obtain ⟨c1, c2, c3⟩ := c4 cm s2 hc
    refine (brP_t (M4.fl.mpr ⟨s2, rfl⟩)).mpr ?_
    have e37 : I4 106 37 = z32 (l.length : Int) := by
      rw [f4 106 37 (by omega), f3 106 37 (by omega), up2_ne (by omega), f1 106 37 (by omega), l1]
    rw [e37, ix_n (by omega), z32_s]
    have hb : inB (z32 (l.length : Int)) 40 := inB_n hl40 (by omega)
    refine tsP_i hb (tsP_i hb (tsP_i hb (qV_i ?_)))
    have fEnd : SFr I4 (up2 (up2 (up2 (up2 I4 128 l.length (I4 106 31)) 129 l.length (I4 106 32)) 130 l.length (I4 106 33)) 106 37 (z32 ((l.length + 1 : Nat) : Int))) :=
      (SFr.up (by unfold Sc; omega)).tr ((SFr.up (by unfold Sc; omega)).tr ((SFr.up (by unfold Sc; omega)).tr (SFr.up (by unfold Sc; omega))))
    have hnb : ∃ s3, nbP 7 s = .inl (v0, s3) := by
      cases hn : nbP 7 s with
      | inl q =>
        have := hv0 q.1 q.2 hn
        exact ⟨q.2, by rw [← this]⟩
      | inr m =>
        exfalso
        have : r3 = .inr m := by
          rw [← hr3]
          show aft (sq (aft (nbP 7 s)) (tkP 58)) = _
          rw [hn]
          rfl
        rw [this] at hc
        cases hc
    obtain ⟨s3, hnb⟩ := hnb
    have hx0 : x = z32 v0 := hv v0 s3 hnb
    have hv7 := nbP_v hnb
    have hcm : okCm cm ∧ (false = false → cm.2.2.2 = none) := by
      rcases r3 with s4 | m
      · have h4 : s4.length ≤ 160 := by
          have h5 : lnP s = .inl ((v0.toNat, cm), s2) := by rw [e5, hc]; rfl
          have : aft (sq (aft (nbP 7 s)) (tkP 58)) = .inl s4 := hr3
          rw [hnb] at this
          have : aft (tkP 58 s3) = .inl s4 := this
          cases ht : tkP 58 s3 with
          | inr m => rw [ht] at this; cases this
          | inl us =>
            rw [ht] at this
            cases this
            have a := nbP_le hnb
            have b := tkP_le (u := us.1) (s2 := us.2) ht
            have c := h.in.1.1
            have e := h.1.2.1
            omega
        exact cmP_wf h4 hc
      · cases hc
    refine k _ (fI4.tr fEnd.t) (M4.mv fEnd (by rw [up2_nj (by omega), up2_ne (by omega), up2_ne (by omega), up2_ne (by omega)]) (by rw [up2_nj (by omega), up2_ne (by omega), up2_ne (by omega), up2_ne (by omega)])) (fun y s5 q => ?_)
    cases q
    have hlen2 : (l ++ [(v0.toNat, cm)]).length = l.length + 1 := by rw [List.length_append]; rfl
    refine ⟨by rw [up2_eq, hlen2], by omega, fun i y hy => ?_⟩
    rcases Nat.lt_or_ge i l.length with q | q
    · rw [List.getElem?_append_left q] at hy
      obtain ⟨a1, a2, a3, a4⟩ := l3 i y hy
      have old : ∀ j, 127 ≤ j → j ≤ 130 → up2 (up2 (up2 (up2 I4 128 l.length (I4 106 31)) 129 l.length (I4 106 32)) 130 l.length (I4 106 33)) 106 37 (z32 ((l.length + 1 : Nat) : Int)) j i = I j i := fun j h1 h2 => by
        rw [up2_ne (by omega), up2_nj (by omega), up2_nj (by omega), up2_nj (by omega), f4 j i (by omega), f3 j i (by omega), up2_nj (by omega), f1 j i (by omega)]
      rw [old 127 (by omega) (by omega), old 128 (by omega) (by omega), old 129 (by omega) (by omega), old 130 (by omega) (by omega)]
      exact ⟨a1, a2, a3, a4⟩
    · have hi : i = l.length := by
        have := (List.getElem?_eq_some_iff.mp hy).1
        omega
      subst hi
      rw [List.getElem?_append_right (Nat.le_refl _), Nat.sub_self] at hy
      cases hy
      have hn := hcm.2 rfl
      rw [hn] at c3
      refine ⟨?_, ?_, ?_, ?_⟩
      · rw [up2_ne (by omega), up2_ne (by omega), up2_ne (by omega), up2_ne (by omega), f4 127 _ (by omega), f3 127 _ (by omega), up2_eq, hx0]
        show z32 v0 = z32 ((v0.toNat : Nat) : Int)
        rw [Int.toNat_of_nonneg hv7.1]
      · rw [up2_ne (by omega), up2_ne (by omega), up2_ne (by omega), up2_eq]
        exact c1
      · rw [up2_ne (by omega), up2_ne (by omega), up2_eq]
        exact c3.2
      · rw [up2_ne (by omega), up2_eq]
        exact c2
/-- behind a line -/
def lnR2 (g : Nat) (l : List LN) (q : PR LN) : PR (List LN) := bnd q (fun c s => match s with
  | x :: t => if x = 59 then lnsP g (l ++ [c]) t else .inl (l ++ [c], s)
  | [] => .inl (l ++ [c], s))
theorem lnsP_s (g : Nat) (l : List LN) (s : Tx) : lnsP (g + 1) l s = lnR2 g l (lnP s) := rfl
theorem lnR2_59 {g : Nat} {l : List LN} {c : LN} {x : Int32} {t : Tx} (h : x = 59) : lnR2 g l (.inl (c, x :: t)) = lnsP g (l ++ [c]) t := by
  show (if x = 59 then _ else _) = _
  rw [if_pos h]
theorem mlines_loop {d : Nat} {I0 : IM} {D : DY} {A : Int32 → IM → Prop} {T : Tx} (hW0 : WRD I0)
    (ka : ∀ l I2, allP T (lnsP 40 [] T) = .inl l → (∀ x ∈ l, okLn x ∧ x.2.2.2.2 = none) → LNM I2 l → SFt I0 I2 → TPm I2 [] → A (-1) I2)
    (kb : ∀ f I2, allP T (lnsP 40 [] T) = .inr f → SFt I0 I2 → TPm I2 [] → f ≤ 160 → I2 106 4 = z32 (f : Int) → A (z32 (f : Int)) I2) :
    ∀ (g : Nat) (I : IM) (l : List LN) (q : PR LN), SFt I0 I → l.length + g = 39 → MP I T (aft q) → (∀ x s, q = .inl (x, s) → LNM I (l ++ [x]) ∧ s.length ≤ 6 * g ∧ okLn x ∧ x.2.2.2.2 = none) → (∀ x ∈ l, okLn x ∧ x.2.2.2.2 = none) → lnsP 40 [] T = lnR2 g l q →
    Wp GG (d + 72) 215 13 [vR (some 106)] [] (mm I D) (qI (mm I0 D) A) := by
  have hq0 : ∀ {x : Int32} {I2 : IM}, A x I2 → qI (mm I0 D) A (some (vI x)) (mm I2 D) := fun h => ⟨_, _, rfl, rfl, h⟩
  -- the end, behind a whole reading
  have fin : ∀ (I : IM) (Q : PR (List LN)), SFt I0 I → lnsP 40 [] T = Q → MP I T (aft Q) → (∀ l s, Q = .inl (l, s) → LNM I l ∧ ∀ x ∈ l, okLn x ∧ x.2.2.2.2 = none) → CI (d + 71) 188 [vR (some 106)] (mm I D) (fun x I2 => qI (mm I0 D) A (some (vI x)) (mm I2 D)) := fun I Q f hQ M hl => by
    rw [hQ] at ka kb
    refine m_end_go M (fun a I2 h1 h2 h3 h4 => hq0 ?_) (fun f2 I2 h1 h3 h4 h5 h6 => hq0 (kb f2 I2 h1 (f.tr h3.t) h4 h5 h6))
    obtain ⟨hl1, hl2⟩ := hl a [] h2
    exact ka a I2 h1 hl2 (hl1.sf (h3 _ _ (by omega)) (fun q k _ _ => h3 _ _ (by omega))) (f.tr h3.t) h4
  intro g
  induction g with
  | zero =>
    intro I l q f hg M hq hl hR
    refine s_M_readBatch_13 ?_
    rcases q with ⟨x, s⟩ | m
    · obtain ⟨q1, q2, q3⟩ := hq x s rfl
      obtain rfl : s = [] := List.eq_nil_of_length_eq_zero (by omega)
      have M : MP I T (.inl []) := M
      refine (brP_f (by rw [M.in.2.2]; decide)).mpr ?_
      rw [e_here M]
      refine (brP_t (by decide)).mpr (fin I (.inl (l ++ [x], [])) f hR M (fun l2 s2 e => ?_))
      cases e
      exact ⟨q1, fun y hy => by rcases List.mem_append.mp hy with c | c; exact hl y c; rw [List.mem_singleton.mp c]; exact q3⟩
    · have M : MP I T (.inr m) := M
      have hfl : ¬ I 106 4 < 0 := fun c => by
        obtain ⟨s, e⟩ := M.fl.mp c
        cases e
      exact (brP_t (Int32.not_lt.mp hfl)).mpr (fin I (.inr m) f hR M (fun l2 s2 e => by cases e))
  | succ g ih =>
    intro I l q f hg M hq hl hR
    refine s_M_readBatch_13 ?_
    rcases q with ⟨x, s⟩ | m
    · obtain ⟨q1, q2, q3⟩ := hq x s rfl
      have hl2 : ∀ y ∈ l ++ [x], okLn y ∧ y.2.2.2.2 = none := fun y hy => by
        rcases List.mem_append.mp hy with c | c
        · exact hl y c
        · rw [List.mem_singleton.mp c]
          exact q3
      have M : MP I T (.inl s) := M
      refine (brP_f (by rw [M.in.2.2]; decide)).mpr ?_
      rw [e_here M]
      refine brP_i (fun c => ?_) (fun c => ?_)
      · refine fin I (.inl (l ++ [x], s)) f ?_ M (fun l2 s2 e => by cases e; exact ⟨q1, hl2⟩)
        rw [hR]
        cases s with
        | nil => rfl
        | cons y t =>
          show (if y = 59 then _ else _) = _
          rw [if_neg (show ¬ y = 59 from c)]
      · cases s with
        | nil => exact absurd c (by decide)
        | cons y t =>
          have c : y = 59 := Classical.not_not.mp c
          subst c
          rw [List.length_cons] at q2
          have fn : NFr I (up2 I 106 3 (I 106 3 + 1)) := NFr.up (by omega)
          have f2 : SFt I0 (up2 I 106 3 (I 106 3 + 1)) := f.tr fn.s.t
          have hlen2 : (l ++ [x]).length = l.length + 1 := by rw [List.length_append]; rfl
          have hT := M.next.1
          refine m_line (d := d) (l := l ++ [x]) (hW0.sf f2) (q1.sf (fn _ _ (by omega)) (fun q k _ _ => fn _ _ (by omega))) (by omega) hl2 hT (fun I3 f3 M3 c3 => ?_)
          refine ih I3 (l ++ [x]) (lnP t) (f2.tr f3) (by omega) M3 (fun y s2 e => ⟨c3 y s2 e, ?_, ?_⟩) hl2 ?_
          · have := lnP_5 e
            omega
          · have h1 := hT.in.1.1
            have h2 := hT.1.2.1
            exact lnP_wf (by omega) e
          · rw [hR, ← lnsP_s]
            exact lnR2_59 rfl
    · have M : MP I T (.inr m) := M
      have hfl : ¬ I 106 4 < 0 := fun c => by
        obtain ⟨s, e⟩ := M.fl.mp c
        cases e
      exact (brP_t (Int32.not_lt.mp hfl)).mpr (fin I (.inr m) f hR M (fun l2 s2 e => by cases e))
theorem m_lines {d : Nat} {I : IM} {D : DY} {A : Int32 → IM → Prop} {T : Tx} (hW : WRD I) (h : TPm I T)
    (ka : ∀ l I2, allP T (lnsP 40 [] T) = .inl l → (∀ x ∈ l, okLn x ∧ x.2.2.2.2 = none) → LNM I2 l → SFt I I2 → TPm I2 [] → A (-1) I2)
    (kb : ∀ f I2, allP T (lnsP 40 [] T) = .inr f → SFt I I2 → TPm I2 [] → f ≤ 160 → I2 106 4 = z32 (f : Int) → A (z32 (f : Int)) I2) : CI (d + 72) 215 [vR (some 106)] (mm I D) A := by
  have h160 := h.2.1
  refine s_M_readBatch (m_begin h (fun I1 f1 M1 => ?_))
  have f2 : SFr I (up2 I1 106 37 0) := f1.s.tr (SFr.up (by unfold Sc; omega))
  have M2 : MP (up2 I1 106 37 0) T (.inl T) := M1.up (by omega)
  refine m_line (d := d) (l := []) (hW.sf f2.t) ⟨up2_eq, by decide, fun i x e => by cases e⟩ (by decide) (fun x hx => absurd hx List.not_mem_nil) M2 (fun I3 f3 M3 c3 => ?_)
  refine mlines_loop (d := d) hW ka kb 39 I3 [] (lnP T) (f2.t.tr f3) rfl M3 (fun x s e => ⟨c3 x s e, ?_, lnP_wf h160 e⟩) (fun x hx => absurd hx List.not_mem_nil) rfl
  have := lnP_5 e
  omega
