/-! The formats, and the reading of events. -/
def eraC (C : CF) : Nat := ((List.range 9).map (fun k => (C k).length)).foldl (· + ·) 0
def FMr (o : Nat) (I : IM) (D : DY) (C : CF) : Prop := ∀ (k i : Nat) (c : Tx × Tx), k < 9 → (C k)[i]? = some c → (∃ fa, dR D (o + 2) (k * 3 + i) = some fa ∧ isF I D fa c.1) ∧ ∃ fb, dR D (o + 3) (k * 3 + i) = some fb ∧ isF I D fb c.2
/-- every reference is of a formula -/
def FMk (o : Nat) (D : DY) : Prop := ∀ j b, j < 27 → (dR D (o + 2) j = some b ∨ dR D (o + 3) j = some b) → 159 ≤ b ∧ b < dZ D ∧ dK D b = 4
def CWF (C : CF) : Prop := (∀ k, k < 9 → (C k).length ≤ 3) ∧ ∀ (k i : Nat) (c : Tx × Tx), k < 9 → (C k)[i]? = some c → cWF 3 c.1 ∧ cWF 3 c.2
def FM (o : Nat) (I : IM) (D : DY) (C : CF) : Prop := I o 4 = z32 (eraC C : Int) ∧ (∀ k, k < 9 → I (o + 1) k = z32 ((C k).length : Int)) ∧ CWF C ∧ FMr o I D C ∧ FMk o D
theorem isF.qf {D : DY} {I I2 : IM} {f : Nat} {c : Tx} (h : isF I D f c) (hf : IMF I I2 D) : isF I2 D f c := h.mono (X := fun _ => False) (DX.rf (c := 0) (s := 0)) (fun _ _ q => q) hf
theorem FM.fr {o : Nat} {D : DY} {I I2 : IM} {C : CF} (h : FM o I D C) (h1 : I2 o 4 = I o 4) (h2 : ∀ k, I2 (o + 1) k = I (o + 1) k) (h3 : IMF I I2 D) : FM o I2 D C := ⟨h1.trans h.1, fun k hk => (h2 k).trans (h.2.1 k hk), h.2.2.1, fun k i c hk hc => by
  obtain ⟨⟨fa, a1, a2⟩, fb, b1, b2⟩ := h.2.2.2.1 k i c hk hc
  exact ⟨⟨fa, a1, a2.qf h3⟩, fb, b1, b2.qf h3⟩, h.2.2.2.2⟩
theorem FM.qf {D : DY} {I I2 : IM} {C : CF} (h : FM 63 I D C) (hf : QF D I I2) : FM 63 I2 D C := h.fr (hf.at (by omega) (by omega)) (fun k => hf.at (by omega) (by omega)) hf.im
theorem e_fmt {d : Nat} {I : IM} {D : DY} {K : Int32 → IM → Prop} {C : CF} {k : Nat} (h : FM 63 I D C) (hk : k < 9) : CI d 55 [vR (some 63), vI (z32 (k : Int))] (mm I D) K ↔ K (z32 (((C k).length + 1 : Nat) : Int)) I := by
  refine CI_iff (s_Formats_formatOf _ ((brP_f (by rw [z32_0, z32_lt] <;> omega)).mpr ((brP_f (by show ¬ z32 9 ≤ _; rw [z32_le] <;> omega)).mpr (tsP_i (inB_n hk (by omega)) (qI_i ⟨?_, rfl⟩)))))
  rw [ix_n (by omega), h.2.1 k hk, z32_s]
def LT (I : IM) (a b s : Int32) : Prop := I 67 0 = a ∧ I 67 1 = b ∧ I 67 2 = s
theorem LT.env {I : IM} {a b s : Int32} (h : LT I a b s) : ∀ j, j < 3 → I 67 j = env3 a b s j := fun j hj => by
  obtain rfl | rfl | rfl : j = 0 ∨ j = 1 ∨ j = 2 := by omega
  · exact h.1
  · exact h.2.1
  · exact h.2.2
theorem c_give67 {d : Nat} {I : IM} {D : DY} {K : Int32 → IM → Prop} {f : Nat} {c : Tx} {a b s : Int32} (hF : isF I D f c) (hw : cWF 3 c) (hl : LT I a b s) (k : ∀ I2, GF D I I2 → K (valV (env3 a b s) c) I2) : CI (d + 1) 83 [vR (some f), vR (some 67)] (mm I D) K :=
  c_give (nv := 3) (n := 3) hF hw (by omega) rfl rfl (by omega) (by omega) hl.env k
theorem LT.gf {D : DY} {I I2 : IM} {a b s : Int32} (h : LT I a b s) (hf : GF D I I2) : LT I2 a b s := ⟨(hf 67 0 (Or.inl (by omega))).trans h.1, (hf 67 1 (Or.inl (by omega))).trans h.2.1, (hf 67 2 (Or.inl (by omega))).trans h.2.2⟩
/-- what reading may change: letters, stacks -/
def RF (D : DY) (I I2 : IM) : Prop := ∀ a k, ¬ (a = 67 ∨ (159 ≤ a ∧ dW D a = 2)) → I2 a k = I a k
theorem RF.rf {D : DY} {I : IM} : RF D I I := fun _ _ _ => rfl
theorem RF.tr {D : DY} {I I2 I3 : IM} (h : RF D I I2) (h2 : RF D I2 I3) : RF D I I3 := fun a k q => (h2 a k q).trans (h a k q)
theorem RF.q {D : DY} {I I2 : IM} (h : RF D I I2) : QF D I I2 := fun a k q => h a k (fun e => q (by unfold QFp; omega))
theorem GF.r {D : DY} {I I2 : IM} (h : GF D I I2) : RF D I I2 := fun a k q => h a k (by
  by_cases e : a < 159
  · exact Or.inl e
  · exact Or.inr (fun e2 => q (by omega)))
theorem RF.put {D : DY} {I : IM} {k : Nat} {v : Int32} : RF D I (up2 I 67 k v) := fun b j hb => up2_ne (fun e => hb (Or.inl e))
theorem c_fchange {d : Nat} {I : IM} {D : DY} {K : IM → Prop} {fa fb : Nat} {ca cb : Tx} {a b s : Int32} (ha : isF I D fa ca) (hb : isF I D fb cb) (wa : cWF 3 ca) (wb : cWF 3 cb) (hl : LT I a b s)
    (k : ∀ I2, RF D I I2 → LT I2 (valV (env3 a b s) ca) (valV (env3 a b s) cb) s → K I2) : CV (d + 2) 82 [vR (some 63), vR (some fa), vR (some fb)] (mm I D) K := by
  refine s_Formats_change _ _ ((brP_f (by simp)).mpr ((brP_f (by simp)).mpr (onR_i rfl (tsP_i (by rw [mmK ha.1]; exact ha.2.2.1) ?_))))
  refine c_give67 ha wa hl (fun I1 h1 => onR_i rfl (tsP_i (by rw [mmK hb.1]; exact hb.2.2.1) ?_))
  refine c_give67 (hb.qf h1.im) wb (hl.gf h1) (fun I2 h2 => qV_i (k _ (((h1.tr h2).r.tr RF.put).tr RF.put) ⟨?_, up2_eq, ?_⟩))
  · rw [up2_nj (by omega), up2_eq]
  · rw [up2_nj (by omega), up2_nj (by omega)]
    exact ((hl.gf h1).gf h2).2.2
/-- one event, its place in the log -/
def okEv (C : CF) (e : EV) : Prop := eS e < 8 ∧ eK e < 9 ∧ 1 ≤ eF e ∧ eF e ≤ (C (eK e)).length + 1
theorem read_loop {d : Nat} {D : DY} {C : CF} {K : IM → Prop} {kd s : Nat} {w5 : PV} (hk : kd < 9) {p : Int32} : ∀ (g f : Nat) (I0 I : IM) (a b : Int32) (w : PV), FM 63 I D C → f + g = (C kd).length + 1 → 1 ≤ f → LT I a b (z32 (s : Int)) → RF D I0 I →
    (∀ I2, RF D I0 I2 → LT I2 (rdL s ((C kd).drop (f - 1)) (a, b)).1 (rdL s ((C kd).drop (f - 1)) (a, b)).2 (z32 (s : Int)) → K I2) →
    Wp GG (d + 3) 79 51 [vR (some 63), vR (some 55), vI p, vI (z32 (kd : Int)), vI (z32 (f : Int)), w] [] (mm I D) (qV (mm I0 D) K) := by
  intro g
  induction g with
  | zero =>
    intro f I0 I a b w hM hf h1 hl hq k
    have hlen := hM.2.2.1.1 kd hk
    refine s_Formats_read_51 _ _ _ _ ?_
    rw [e_fmt hM hk]
    refine (brP_t (by rw [z32_le] <;> omega)).mpr (qV_i (k I hq ?_))
    rw [List.drop_eq_nil_of_le (by omega)]
    exact hl
  | succ g ih =>
    intro f I0 I a b w hM hf h1 hl hq k
    have hlen := hM.2.2.1.1 kd hk
    refine s_Formats_read_51 _ _ _ _ ?_
    rw [e_fmt hM hk]
    have e1 : z32 (kd : Int) * 3 + z32 (f : Int) - 1 = z32 ((kd * 3 + (f - 1) : Nat) : Int) := by
      show z32 _ * z32 3 + _ - z32 1 = _
      rw [z32_mul, z32_add, z32_sub]
      congr 1
      omega
    rw [e1]
    have hb : inB (z32 ((kd * 3 + (f - 1) : Nat) : Int)) 27 := inB_n (by omega) (by omega)
    refine (brP_f (by rw [z32_le] <;> omega)).mpr ((brP_f (by rw [z32_0, z32_lt] <;> omega)).mpr ((brP_f (by show ¬ z32 27 ≤ _; rw [z32_le] <;> omega)).mpr ((brP_f (by show ¬ z32 27 ≤ _; rw [z32_le] <;> omega)).mpr (tsP_i hb (tsP_i hb ?_)))))
    rw [ix_n (by omega)]
    obtain ⟨c, hc⟩ : ∃ c, (C kd)[f - 1]? = some c := ⟨(C kd)[f - 1]'(by omega), List.getElem?_eq_getElem (by omega)⟩
    obtain ⟨⟨fa, a1, a2⟩, fb, b1, b2⟩ := hM.2.2.2.1 kd (f - 1) c hk hc
    obtain ⟨wa, wb⟩ := hM.2.2.1.2 kd (f - 1) c hk hc
    have a1 : dR D 65 (kd * 3 + (f - 1)) = some fa := a1
    have b1 : dR D 66 (kd * 3 + (f - 1)) = some fb := b1
    rw [a1, b1]
    refine c_fchange (d := d) a2 b2 wa wb hl (fun I2 q2 hl2 => ?_)
    rw [z32_s]
    refine ih (f + 1) I0 I2 _ _ _ (hM.qf q2.q) (by omega) (by omega) hl2 (hq.tr q2) (fun I3 q3 hl3 => k I3 q3 ?_)
    have ed : (C kd).drop (f - 1) = c :: (C kd).drop (f + 1 - 1) := by
      rw [List.drop_eq_getElem_cons (by omega), show f - 1 + 1 = f + 1 - 1 by omega]
      congr 1
      rw [List.getElem?_eq_getElem (by omega)] at hc
      exact Option.some.inj hc
    rw [ed]
    exact hl3
theorem c_read {d : Nat} {I : IM} {D : DY} {K : IM → Prop} {C : CF} {L : List EV} {i : Nat} {e : EV} (hL : LG 55 I L) (hM : FM 63 I D C) (he : L[i]? = some e) (ho : okEv C e)
    (k : ∀ I2, RF D I I2 → LT I2 (rdE C e).1 (rdE C e).2 (z32 (eS e : Int)) → K I2) : CV (d + 3) 79 [vR (some 63), vR (some 55), vI (z32 ((i + 1 : Nat) : Int))] (mm I D) K := by
  obtain ⟨o1, o2, o3, o4⟩ := ho
  refine s_Formats_read _ ?_
  have q : ∀ (J : IM) (j : Nat) (v : Int32), RF D J (up2 J 67 j v) := fun J j v => RF.put
  rw [e_lg hL he (c := 4) (lit := 4) (by omega) rfl, e_lg (hL.qf (q _ _ _).q) he (c := 5) (lit := 5) (by omega) rfl, e_lg ((hL.qf (q _ _ _).q).qf (q _ _ _).q) he (c := 0) (lit := 0) (by omega) rfl, e_lg (((hL.qf (q _ _ _).q).qf (q _ _ _).q).qf (q _ _ _).q) he (c := 2) (lit := 2) (by omega) rfl, e_lg (((hL.qf (q _ _ _).q).qf (q _ _ _).q).qf (q _ _ _).q) he (c := 3) (lit := 3) (by omega) rfl]
  have hq : RF D I (up2 (up2 (up2 I 67 0 (colE 4 e)) 67 1 (colE 5 e)) 67 2 (colE 0 e)) := ((q _ _ _).tr (q _ _ _)).tr (q _ _ _)
  refine read_loop (kd := eK e) (s := eS e) (w5 := vT) o2 ((C (eK e)).length + 1 - eF e) (eF e) I _ (eA e) (eB e) _ (hM.qf hq.q) (by omega) o3 ⟨?_, ?_, up2_eq⟩ hq k
  · rw [up2_nj (by omega), up2_nj (by omega), up2_eq]
    rfl
  · rw [up2_nj (by omega), up2_eq]
    rfl
theorem e_letter {d : Nat} {I : IM} {D : DY} {K : Int32 → IM → Prop} {j : Nat} {lit : Int32} (hj : j < 3) (hl : lit = z32 (j : Int)) : CI d 86 [vR (some 63), vI lit] (mm I D) K ↔ K (I 67 j) I := by
  subst hl
  refine CI_iff (s_Formats_letter _ ((brP_f (by rw [z32_0, z32_lt] <;> omega)).mpr ((brP_f (by show ¬ z32 3 ≤ _; rw [z32_le] <;> omega)).mpr (tsP_i (inB_n hj (by omega)) (qI_i ⟨?_, rfl⟩)))))
  rw [ix_n (by omega)]
theorem stF_snoc {C : CF} {L : List EV} {e : EV} : stF C (L ++ [e]) = updF (stF C L) (eS e) (chg (eK e) (rdE C e).1 (stF C L (eS e))) := by
  funext s
  unfold stF updF
  rw [List.foldl_append]
  show stE C s _ e = _
  unfold stE
  by_cases h : eS e = s
  · rw [if_pos h, if_pos h.symm, h]
  · rw [if_neg h, if_neg (fun q => h q.symm)]
theorem RF.at {D : DY} {I I2 : IM} (h : RF D I I2) {a k : Nat} (h1 : a < 159) (h2 : a ≠ 67) : I2 a k = I a k := h a k (by omega)
theorem c_changePast {d : Nat} {I : IM} {D : DY} {K : IM → Prop} {C : CF} {L : List EV} {i : Nat} {e : EV} {f : Nat → S4} (hL : LG 55 I L) (hM : FM 63 I D C) (he : L[i]? = some e) (ho : okEv C e) (hB : BN 62 I f)
    (k : ∀ I2, QF D I I2 → BN 62 I2 (updF f (eS e) (chg (eK e) (rdE C e).1 (f (eS e)))) → K I2) : CV (d + 4) 78 [vR (some 54), vI (z32 ((i + 1 : Nat) : Int))] (mm I D) K := by
  refine s_Store_changePast _ (c_read hL hM he ho (fun I1 q1 hl => ?_))
  have hL1 := hL.qf q1.q
  rw [e_lg (d := d + 1) hL1 he (c := 0) (lit := 0) (by omega) rfl, e_lg (d := d + 1) hL1 he (c := 2) (lit := 2) (by omega) rfl, e_letter (j := 0) (lit := 0) (by omega) rfl, hl.1]
  refine c_bchange (d := d + 1) BB61 (hB.fr (fun j => q1.at (by omega) (by omega))) ho.1 ho.2.1 (fun I2 h1 h2 => qV_i (k I2 (q1.q.tr (QF.row h1 (by omega))) h2))
theorem past_loop {d : Nat} {D : DY} {C : CF} {L : List EV} {K : IM → Prop} {n : Nat} (hn : n ≤ L.length) (ho : ∀ e ∈ L, okEv C e) : ∀ (g i : Nat) (I0 I : IM), i + g = n → LG 55 I L → FM 63 I D C → QF D I0 I → BN 62 I (stF C (L.take i)) →
    (∀ I2, QF D I0 I2 → BN 62 I2 (stF C (L.take n)) → K I2) → Wp GG (d + 5) 76 9 [vR (some 54), vI (z32 (n : Int)), vI (z32 ((i + 1 : Nat) : Int))] [] (mm I D) (qV (mm I0 D) K) := by
  intro g
  induction g with
  | zero =>
    intro i I0 I hi hL hM hq hB k
    have := hL.2.1
    obtain rfl : i = n := by omega
    exact s_Store_foldPast_9 _ _ ((brP_t (by rw [z32_lt] <;> omega)).mpr (qV_i (k I hq hB)))
  | succ g ih =>
    intro i I0 I hi hL hM hq hB k
    have hl := hL.2.1
    obtain ⟨e, he⟩ : ∃ e, L[i]? = some e := ⟨L[i]'(by omega), List.getElem?_eq_getElem (by omega)⟩
    refine s_Store_foldPast_9 _ _ ((brP_f (by rw [z32_lt] <;> omega)).mpr ?_)
    rw [hL.1]
    refine (brP_f (by rw [z32_lt] <;> omega)).mpr ?_
    refine c_changePast (d := d) hL hM he (ho e (List.mem_of_getElem? he)) hB (fun I2 q2 hB2 => ?_)
    rw [z32_s]
    refine ih (i + 1) I0 I2 (by omega) (hL.qf q2) (hM.qf q2) (hq.tr q2) ?_ k
    have et : L.take (i + 1) = L.take i ++ [e] := by rw [List.take_add_one, he]; rfl
    rw [et, stF_snoc]
    exact hB2
theorem c_foldPast {d : Nat} {I : IM} {D : DY} {K : IM → Prop} {C : CF} {L : List EV} {n : Nat} (hL : LG 55 I L) (hM : FM 63 I D C) (ho : ∀ e ∈ L, okEv C e) (hn : n ≤ L.length)
    (k : ∀ I2, QF D I I2 → BN 62 I2 (stF C (L.take n)) → K I2) : CV (d + 5) 76 [vR (some 54), vI (z32 (n : Int))] (mm I D) K := by
  refine s_Store_foldPast _ (c_bclear (d := d + 3) BB61 (fun I1 h1 h2 => ?_))
  have q : QF D I I1 := QF.row h1 (by omega)
  exact past_loop hn ho n 0 I I1 (by omega) (hL.qf q) (hM.qf q) q h2 k
