/-! The text of a command is made. -/
def XN : Nat → Prop := fun _ => False
theorem LW.chx {I I2 : IM} {D D2 : DY} {c s : Nat} (h : LW I) (hz : 159 ≤ dZ D) (hc : CHX XN I D I2 D2 c s) : LW I2 := ⟨fun j j1 j2 => ⟨(hc.2 _ _ (by omega) id).trans (h.1 j j1 j2).1, fun k hk => (hc.2 _ _ (by omega) id).trans ((h.1 j j1 j2).2 k hk)⟩, fun k hk => ⟨(hc.2 _ _ (by omega) id).trans (h.2 k hk).1, (hc.2 _ _ (by omega) id).trans (h.2 k hk).2⟩⟩
theorem SOK.chx {I I2 : IM} {D D2 : DY} {c s : Nat} (h : SOK I) (hz : 159 ≤ dZ D) (hc : CHX XN I D I2 D2 c s) : SOK I2 := h.mono (fun a ha => funext fun j => hc.2 a j (by omega) id)
theorem CHX.trN {I I2 I3 : IM} {D D2 D3 : DY} {c s c2 s2 : Nat} (h : CHX XN I D I2 D2 c s) (h2 : CHX XN I2 D2 I3 D3 c2 s2) : CHX XN I D I3 D3 (c + c2) (s + s2) := h.tr h2 (fun _ _ e => e)
/-- a builder that was made since -/
def BLD (I0 : IM) (D0 : DY) (I : IM) (D : DY) (a : Nat) (t : Tx) (c s : Nat) : Prop := 159 ≤ dZ D0 ∧ CHX XN I0 D0 I D c s ∧ dZ D0 ≤ a ∧ ∃ v n, dZ D0 ≤ v ∧ SBR I D a v n t
section
variable {d : Nat} {I0 I : IM} {D0 D : DY} {a c s : Nat} {t : Tx}
theorem BLD.kd (h : BLD I0 D0 I D a t c s) : pKd (mm I D) a = 12 := h.2.2.2.elim fun _ h => h.elim fun _ h => h.2.kd.1
theorem BLD.z (h : BLD I0 D0 I D a t c s) : 159 ≤ dZ D := Nat.le_trans h.1 h.2.1.1.1
theorem BLD.chx {I2 : IM} {D2 : DY} {c2 s2 : Nat} (h : BLD I0 D0 I D a t c s) (h2 : CHX XN I D I2 D2 c2 s2) : BLD I0 D0 I2 D2 a t (c + c2) (s + s2) := by
  obtain ⟨h0, h1, ha, v, n, hv, hb⟩ := h
  exact ⟨h0, h1.trN h2, ha, v, n, hv, hb.chx h2 id id⟩
theorem BLD.next {X : Nat → Prop} {I2 : IM} {D2 : DY} {v v2 n2 c2 s2 : Nat} {t2 : Tx} (h0 : 159 ≤ dZ D0) (h1 : CHX XN I0 D0 I D c s) (ha : dZ D0 ≤ a) (hv : dZ D0 ≤ v) (h2 : CHX (fun q => q = a ∨ q = v) I D I2 D2 c2 s2) (hb : SBR I2 D2 a v2 n2 t2) (hq : v2 = v ∨ v2 = dZ D) : BLD I0 D0 I2 D2 a t2 (c + c2) (s + s2) :=
  ⟨h0, h1.tr h2 (fun q hq e => by omega), ha, v2, n2, by have := h1.1.1; omega, hb⟩
theorem BLD.appS {K : Option Nat → IM → DY → Prop} {s0 b : Nat} {u : Tx} (h : BLD I0 D0 I D a t c s) (hs : STR I D s0 b u) (hl : t.length + u.length ≤ 90) (k : ∀ I2 D2, BLD I0 D0 I2 D2 a (t ++ u) (c + 1) (s + 202) → K (some a) I2 D2) : AR (d + 5) 168 [vR (some a), vR (some s0)] (mm I D) K := by
  obtain ⟨h0, h1, ha, v, n, hv, hb⟩ := h
  exact e_appS (d := d) hb hs hl (fun I2 D2 v2 n2 c2 b2 q2 => k I2 D2 (BLD.next (X := XN) h0 h1 ha hv c2 b2 q2))
theorem BLD.appI {K : Option Nat → IM → DY → Prop} {x : Nat} (h : BLD I0 D0 I D a t c s) (hw : LW I) (hx : x < 100) (hl : t.length + 2 ≤ 90) (k : ∀ I2 D2, BLD I0 D0 I2 D2 a (t ++ nt x) (c + 1) (s + 202) → K (some a) I2 D2) : AR (d + 5) 169 [vR (some a), vI (z32 (x : Int))] (mm I D) K := by
  obtain ⟨h0, h1, ha, v, n, hv, hb⟩ := h
  exact e_appI (d := d) hb hw hx hl (fun I2 D2 v2 n2 c2 b2 q2 => k I2 D2 (BLD.next (X := XN) h0 h1 ha hv c2 b2 q2))
theorem BLD.toS {K : Option Nat → IM → DY → Prop} (h : BLD I0 D0 I D a t c s) (k : ∀ I2 D2 s0 b, CHX XN I0 D0 I2 D2 (c + 2) (s + 94) → STR I2 D2 s0 b t → K (some s0) I2 D2) : AR (d + 6) 170 [vR (some a)] (mm I D) K := by
  obtain ⟨h0, h1, ha, v, n, hv, hb⟩ := h
  exact e_toStr (d := d) hb (fun I2 D2 c2 g => k I2 D2 _ _ (h1.trN c2) g)
theorem newSB {K : IM → DY → Prop} (hz : 159 ≤ dZ D0) (k : ∀ I2 D2, BLD I0 D0 I2 D2 (dZ D0) [] 2 20 → K I2 D2) : CAN (mkN (mm I0 D0) 12 4) (fun I1 D1 => tsP (pKd (mm I1 D1) (dZ D0) = 12) (AV (d + 2) 167 [vR (some (dZ D0))] (mm I1 D1) K)) := by
  have c1 : CHX XN I0 D0 (upr I0 (dZ D0) 0) (dmk D0 12 4 2) 1 4 := ⟨DX.mk, fun q j hq _ => upr_ne (by omega)⟩
  refine can_mk 2 hz (tsP_i ((mmK hz).trans up1_eq) ?_)
  refine e_sbInit (d := d) ⟨hz, Nat.lt_succ_self _, up1_eq⟩ upr_eq (fun I2 D2 c2 b2 => k I2 D2 ?_)
  exact ⟨hz, (c1.tr c2 (fun q hq e => by omega)).le (by omega) (by omega), Nat.le_refl _, _, 16, Nat.le_succ _, b2⟩
end
/-- the word of a kind -/
def wIx (k : Nat) : Nat := if k = 0 then 10 else if k = 1 then 21 else 20 + k
theorem wIx_lt {k : Nat} (h : k < 8) : wIx k < 40 := by
  unfold wIx
  split
  · decide
  · split
    · decide
    · omega
/-- the text of a command -/
def texA (v : Nat) : Tx := if kN v < 7 then sL (wIx (kN v)) ++ sL 28 ++ nt (aMt v) else sL (wIx (kN v))
def texV (v : Nat) : Tx := if kN v = 6 then texA v ++ sL 29 ++ nt (v / 65536 % 3) else texA v
theorem w_len : ∀ k, k < 8 → (sL (wIx k)).length ≤ 5 ∧ (sL 28).length = 1 ∧ (sL 29).length = 4 := by decide +kernel
theorem texA_len (v : Nat) : (texA v).length ≤ 8 := by
  have h1 := w_len (kN v) (kN_lt v)
  have h2 := nt_len (aMt v)
  unfold texA
  split
  · rw [List.length_append, List.length_append]
    omega
  · omega
theorem texV_len (v : Nat) : (texV v).length ≤ 14 := by
  have h0 := texA_len v
  have h1 := w_len (kN v) (kN_lt v)
  have h2 := nt_len (v / 65536 % 3)
  unfold texV
  split
  · rw [List.length_append, List.length_append]
    omega
  · omega
section
variable {d : Nat} {I : IM} {D : DY}
theorem text_100 {K : Option Nat → IM → DY → Prop} {v s b : Nat} {l1 : Option Nat} {t : Tx} (hv : v < 16777216) (hz : 159 ≤ dZ D) (ho : SOK I) (hw : LW I) (hs : STR I D s b t) (hl : t.length ≤ 20) (k : ∀ I2 D2 s2 b2, CHX XN I D I2 D2 7 720 → STR I2 D2 s2 b2 (t ++ sL 29 ++ nt (v / 65536 % 3)) → K (some s2) I2 D2) :
    Wp GG (d + 7) 200 100 [vI (z32 (v : Int)), vR l1, vR (some s)] [] (mm I D) (aR K) := by
  have h9 := w_len 0 (by omega)
  refine s_L_text_100 _ _ _ ?_
  refine (newSB (d := d + 4) hz (fun I2 D2 b2 => ?_))
  refine tsP_i b2.kd (b2.appS (d := d + 1) (hs.chx b2.2.1 id id) (by show 0 + _ ≤ _; omega) (fun I3 D3 b3 => tsP_i b3.kd ?_))
  refine b3.appS (d := d + 1) (STR.con (j := 29) (ho.chx hz b3.2.1) (hw.chx hz b3.2.1) b3.z (by omega)) (by rw [List.nil_append]; omega) (fun I4 D4 b4 => ?_)
  refine e_targetOf hv (tsP_i b4.kd ?_)
  refine b4.appI (d := d + 1) (hw.chx hz b4.2.1) (by omega) (by rw [List.nil_append, List.length_append]; omega) (fun I5 D5 b5 => tsP_i b5.kd ?_)
  refine b5.toS (d := d) (fun I6 D6 s0 b0 c6 g6 => aR_i rfl (k I6 D6 s0 b0 (c6.le (by omega) (by omega)) ?_))
  rw [List.nil_append] at g6
  exact g6
theorem text_91 {K : Option Nat → IM → DY → Prop} {v s b : Nat} {l1 : Option Nat} (hv : v < 16777216) (hz : 159 ≤ dZ D) (ho : SOK I) (hw : LW I) (hs : STR I D s b (texA v)) (k : ∀ I2 D2 s2 b2, CHX XN I D I2 D2 7 720 → STR I2 D2 s2 b2 (texV v) → K (some s2) I2 D2) :
    Wp GG (d + 7) 200 91 [vI (z32 (v : Int)), vR l1, vR (some s)] [] (mm I D) (aR K) := by
  have h8 := kN_lt v
  have h9 := texA_len v
  unfold texV at k
  refine s_L_text_91 _ _ _ (e_kindOf hv (brP_i (fun q => aR_i rfl ?_) (fun q => ?_)))
  · have q : ¬ z32 (kN v : Int) = z32 6 := q
    rw [z32_inj (by omega) (by omega) (by omega) (by omega)] at q
    rw [if_neg (by omega)] at k
    exact k I D s b CHX.rf hs
  · have q : ¬ ¬ z32 (kN v : Int) = z32 6 := q
    rw [z32_inj (by omega) (by omega) (by omega) (by omega)] at q
    rw [if_pos (by omega)] at k
    exact text_100 (d := d) hv hz ho hw hs (by omega) k
theorem text_64 {K : Option Nat → IM → DY → Prop} {v s b : Nat} {l1 : Option Nat} (hv : v < 16777216) (hz : 159 ≤ dZ D) (ho : SOK I) (hw : LW I) (hk : kN v < 7) (hs : STR I D s b (sL (wIx (kN v)))) (k : ∀ I2 D2 s2 b2, CHX XN I D I2 D2 14 1440 → STR I2 D2 s2 b2 (texV v) → K (some s2) I2 D2) :
    Wp GG (d + 7) 200 64 [vI (z32 (v : Int)), vR l1, vR (some s)] [] (mm I D) (aR K) := by
  have h9 := w_len (kN v) (kN_lt v)
  refine s_L_text_64 _ _ _ ?_
  refine (newSB (d := d + 4) hz (fun I2 D2 b2 => ?_))
  refine tsP_i b2.kd (b2.appS (d := d + 1) (hs.chx b2.2.1 id id) (by show 0 + _ ≤ _; omega) (fun I3 D3 b3 => tsP_i b3.kd ?_))
  refine b3.appS (d := d + 1) (STR.con (j := 28) (ho.chx hz b3.2.1) (hw.chx hz b3.2.1) b3.z (by omega)) (by rw [List.nil_append]; omega) (fun I4 D4 b4 => ?_)
  refine e_amountOf (d := d + 5) hv (tsP_i b4.kd ?_)
  have ha := aMt_lt v
  refine b4.appI (d := d + 1) (hw.chx hz b4.2.1) (by omega) (by rw [List.nil_append, List.length_append]; omega) (fun I5 D5 b5 => tsP_i b5.kd ?_)
  refine b5.toS (d := d) (fun I6 D6 s0 b0 c6 g6 => ?_)
  rw [List.nil_append] at g6
  have e : texA v = sL (wIx (kN v)) ++ sL 28 ++ nt (aMt v) := if_pos hk
  rw [← e] at g6
  exact text_91 (d := d) hv (Nat.le_trans hz c6.1.1) (ho.chx hz c6) (hw.chx hz c6) g6 (fun I7 D7 s2 b2 c7 g7 => k I7 D7 s2 b2 ((c6.trN c7).le (by omega) (by omega)) g7)
def W8 (D : DY) : DY := dset (dset (dset (dset (dset (dset (dset (dset (dmk D 26 8 2) (dZ D) 0 (some 21)) (dZ D) 1 (some 43)) (dZ D) 2 (some 106)) (dZ D) 3 (some 108)) (dZ D) 4 (some 110)) (dZ D) 5 (some 112)) (dZ D) 6 (some 114)) (dZ D) 7 (some 116)
theorem ds_eq {D : DY} {a j : Nat} {v : Option Nat} : dR (dset D a j v) a j = v := up2_eq
theorem ds_nj {D : DY} {a j k : Nat} {v : Option Nat} (h : k ≠ j) : dR (dset D a j v) a k = dR D a k := up2_nj h
theorem w8_get {k : Nat} (h : k < 8) : dR (W8 D) (dZ D) k = some (plS (wIx k)) := by
  obtain rfl | rfl | rfl | rfl | rfl | rfl | rfl | rfl : k = 0 ∨ k = 1 ∨ k = 2 ∨ k = 3 ∨ k = 4 ∨ k = 5 ∨ k = 6 ∨ k = 7 := by omega
  · unfold W8
    exact (ds_nj (by decide)).trans ((ds_nj (by decide)).trans ((ds_nj (by decide)).trans ((ds_nj (by decide)).trans ((ds_nj (by decide)).trans ((ds_nj (by decide)).trans ((ds_nj (by decide)).trans (ds_eq)))))))
  · unfold W8
    exact (ds_nj (by decide)).trans ((ds_nj (by decide)).trans ((ds_nj (by decide)).trans ((ds_nj (by decide)).trans ((ds_nj (by decide)).trans ((ds_nj (by decide)).trans (ds_eq))))))
  · unfold W8
    exact (ds_nj (by decide)).trans ((ds_nj (by decide)).trans ((ds_nj (by decide)).trans ((ds_nj (by decide)).trans ((ds_nj (by decide)).trans (ds_eq)))))
  · unfold W8
    exact (ds_nj (by decide)).trans ((ds_nj (by decide)).trans ((ds_nj (by decide)).trans ((ds_nj (by decide)).trans (ds_eq))))
  · unfold W8
    exact (ds_nj (by decide)).trans ((ds_nj (by decide)).trans ((ds_nj (by decide)).trans (ds_eq)))
  · unfold W8
    exact (ds_nj (by decide)).trans ((ds_nj (by decide)).trans (ds_eq))
  · unfold W8
    exact (ds_nj (by decide)).trans (ds_eq)
  · unfold W8
    exact ds_eq
theorem w8_chx (hz : 159 ≤ dZ D) : CHX XN I D (upr I (dZ D) 0) (W8 D) 1 8 := ⟨(((((((((DX.mk (X := XN) (D := D) (c := 26) (n := 8) (w := 2)).setN (Nat.le_refl _)).setN (Nat.le_refl _)).setN (Nat.le_refl _)).setN (Nat.le_refl _)).setN (Nat.le_refl _)).setN (Nat.le_refl _)).setN (Nat.le_refl _)).setN (Nat.le_refl _)), fun q j hq _ => upr_ne (by omega)⟩
theorem text_ok {K : Option Nat → IM → DY → Prop} {v : Nat} (hv : v < 16777216) (hz : 159 ≤ dZ D) (ho : SOK I) (hw : LW I) (k : ∀ I2 D2 s2 b2, CHX XN I D I2 D2 15 1448 → STR I2 D2 s2 b2 (texV v) → K (some s2) I2 D2) : AR (d + 7) 200 [vI (z32 (v : Int))] (mm I D) K := by
  have h8 := kN_lt v
  have c1 := w8_chx (I := I) hz
  have k1 : pKd (mm (upr I (dZ D) 0) (W8 D)) (dZ D) = 26 := (mmK hz).trans up1_eq
  have n1 : pLn (mm (upr I (dZ D) 0) (W8 D)) (dZ D) = 8 := (mmN hz).trans up1_eq
  have k2 : pKd (mm (upr I (dZ D) 0) (dmk D 26 8 2)) (dZ D) = 26 := (mmK hz).trans up1_eq
  have n2 : pLn (mm (upr I (dZ D) 0) (dmk D 26 8 2)) (dZ D) = 8 := (mmN hz).trans up1_eq
  have ks : ∀ {a : Nat}, a < 159 → kdT a = 13 → pKd (mm (upr I (dZ D) 0) (dmk D 26 8 2)) a = 13 := fun ha h => (kd_s ha).trans h
  have nb : ∀ {i : Nat}, i < 8 → inB (z32 (i : Int)) (pLn (mm (upr I (dZ D) 0) (dmk D 26 8 2)) (dZ D)) := fun hi => by rw [n2]; exact inB_n hi (by omega)
  have hz1 : 159 ≤ dZ (W8 D) := Nat.le_trans hz c1.1.1
  have o1 := ho.chx hz c1
  have w1 := hw.chx hz c1
  have g1 := STR.con (D := W8 D) (j := wIx (kN v)) o1 w1 hz1 (wIx_lt h8)
  refine s_L_text _ (can_mk 2 hz ?_)
  refine tsP_i ⟨k2, ks (a := 21) (by decide) (by decide)⟩ (tsP_i (nb (i := 0) (by omega)) ?_)
  refine tsP_i ⟨k2, ks (a := 43) (by decide) (by decide)⟩ (tsP_i (nb (i := 1) (by omega)) ?_)
  refine tsP_i ⟨k2, ks (a := 106) (by decide) (by decide)⟩ (tsP_i (nb (i := 2) (by omega)) ?_)
  refine tsP_i ⟨k2, ks (a := 108) (by decide) (by decide)⟩ (tsP_i (nb (i := 3) (by omega)) ?_)
  refine tsP_i ⟨k2, ks (a := 110) (by decide) (by decide)⟩ (tsP_i (nb (i := 4) (by omega)) ?_)
  refine tsP_i ⟨k2, ks (a := 112) (by decide) (by decide)⟩ (tsP_i (nb (i := 5) (by omega)) ?_)
  refine tsP_i ⟨k2, ks (a := 114) (by decide) (by decide)⟩ (tsP_i (nb (i := 6) (by omega)) ?_)
  refine tsP_i ⟨k2, ks (a := 116) (by decide) (by decide)⟩ (tsP_i (nb (i := 7) (by omega)) ?_)
  simp only [setR_m (isFn_new hz)]
  refine e_kindOf (D := W8 D) hv (tsP_i k1 (tsP_i (by rw [show dset _ _ _ _ = W8 D from rfl, n1]; exact inB_n h8 (by omega)) ?_))
  refine e_kindOf (D := W8 D) hv ?_
  have e1 : pR (mm (upr I (dZ D) 0) (W8 D)) (dZ D) (ixN (z32 (kN v : Int))) = some (plS (wIx (kN v))) := by
    rw [mmR (isFn_new hz), ix_n (by omega)]
    exact w8_get h8
  show brP _ (Wp GG (d + 7) 200 91 [vI (z32 (v : Int)), vR (some (dZ D)), vR (pR (mm (upr I (dZ D) 0) (W8 D)) (dZ D) (ixN (z32 (kN v : Int))))] [] (mm (upr I (dZ D) 0) (W8 D)) (aR K)) (Wp GG (d + 7) 200 64 [vI (z32 (v : Int)), vR (some (dZ D)), vR (pR (mm (upr I (dZ D) 0) (W8 D)) (dZ D) (ixN (z32 (kN v : Int))))] [] (mm (upr I (dZ D) 0) (W8 D)) (aR K))
  rw [e1]
  refine brP_i (fun q => ?_) (fun q => ?_)
  · have q : z32 7 ≤ z32 (kN v : Int) := q
    rw [z32_le (by omega) (by omega) (by omega) (by omega)] at q
    have e : texA v = sL (wIx (kN v)) := if_neg (by omega)
    rw [← e] at g1
    exact text_91 (d := d) hv hz1 o1 w1 g1 (fun I7 D7 s2 b2 c7 g7 => k I7 D7 s2 b2 ((c1.trN c7).le (by omega) (by omega)) g7)
  · have q : ¬ z32 7 ≤ z32 (kN v : Int) := q
    rw [z32_le (by omega) (by omega) (by omega) (by omega)] at q
    exact text_64 (d := d) hv hz1 o1 w1 (by omega) g1 (fun I7 D7 s2 b2 c7 g7 => k I7 D7 s2 b2 ((c1.trN c7).le (by omega) (by omega)) g7)
end
