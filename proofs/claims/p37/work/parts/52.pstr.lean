/-! Strings: what the law tells. -/
def chrB (x : Int32) : Bool := decide ((Int32.toUInt32 (x &&& 255) % 65536).toInt32 = x) && (decide ((x.toUInt32 % 65536).toInt32 = x) && (decide (1 ≤ x) && (decide (x ≤ 255) && decide (x.toInt8.toInt32 = x))))
theorem chr_p {x : Int32} (h : chrB x = true) : (Int32.toUInt32 (x &&& 255) % 65536).toInt32 = x ∧ (x.toUInt32 % 65536).toInt32 = x ∧ 1 ≤ x ∧ x ≤ 255 ∧ x.toInt8.toInt32 = x := by
  unfold chrB at h
  simp only [Bool.and_eq_true, decide_eq_true_eq] at h
  exact h
/-- a String, its bytes, its text -/
def STR (I : IM) (D : DY) (s b : Nat) (t : Tx) : Prop := pKd (mm I D) s = 13 ∧ pR (mm I D) s 0 = some b ∧ I s 1 = 0 ∧ pKd (mm I D) b = 21 ∧ pLn (mm I D) b = t.length ∧ t.length ≤ 150 ∧ (∀ k, k < t.length → I b k = t.getD k 0) ∧ (∀ x ∈ t, chrB x = true) ∧ s < dZ D ∧ b < dZ D
theorem shr0 (x : Int32) : x >>> (0 : Int32) = x := Int32.shiftRight_zero
theorem shl0 (x : Int32) : x <<< (0 : Int32) = x := Int32.shiftLeft_zero
section
variable {d : Nat} {I : IM} {D : DY} {s b : Nat} {t : Tx}
theorem g_coder {K : Int32 → IM → Prop} (h : STR I D s b t) (k : K 0 I) : CI d 8 [vR (some s)] (mm I D) K := by
  obtain ⟨h1, h2, h3, h4, h5, h6, h7, h8, -⟩ := h
  refine s_String_coder _ (tsP_i h1 ?_)
  rw [h3]
  exact rtP_i (show (0 : Int32).toInt8.toInt32 = 0 by decide) (qI_i k)
theorem g_latin {K : Int32 → IM → Prop} (h : STR I D s b t) (k : K 1 I) : CI d 21 [vR (some s)] (mm I D) K := by
  obtain ⟨h1, h2, h3, h4, h5, h6, h7, h8, -⟩ := h
  refine s_String_isLatin1 _ (tsP_i h1 ?_)
  rw [h3]
  exact brP_i (fun q => absurd rfl q) (fun _ => qI_i k)
theorem g_len {K : Int32 → IM → Prop} (h : STR I D s b t) (k : K (z32 (t.length : Int)) I) : CI (d + 1) 7 [vR (some s)] (mm I D) K := by
  have h0 := h
  obtain ⟨h1, h2, h3, h4, h5, h6, h7, h8, -⟩ := h
  refine s_String_length _ (tsP_i h1 (onR_i h2 (tsP_i (by rw [h4]; decide) (tsP_i h1 (g_coder h0 ?_)))))
  rw [h5, shr0]
  exact qI_i k
theorem g_mem {k : Nat} (hk : k < t.length) : t.getD k 0 ∈ t := by
  rw [List.getD_eq_getElem?_getD, List.getElem?_eq_getElem hk]
  exact List.getElem_mem hk
theorem g_chat {K : Int32 → IM → Prop} (h : STR I D s b t) {k : Nat} (hk : k < t.length) (hK : K (t.getD k 0) I) : CI (d + 3) 20 [vR (some s), vI (z32 (k : Int))] (mm I D) K := by
  have h0 := h
  obtain ⟨h1, h2, h3, h4, h5, h6, h7, h8, -⟩ := h
  obtain ⟨g1, g2, g3, g4, -⟩ := chr_p (h8 _ (g_mem hk))
  have e1 : (Int32.ofNat (pLn (mm I D) b)).toInt = (t.length : Int) := by
    rw [h5]
    exact z32_toInt (n := (t.length : Int)) (by omega) (by omega)
  refine s_String_charAt _ _ (tsP_i h1 (g_latin h0 ?_))
  refine brP_i (fun q => absurd q (by decide)) (fun _ => tsP_i h1 ?_)
  rw [h2]
  refine s_StringLatin1_charAt _ _ (tsP_i (by rw [h4]; decide) (tsP_i ⟨by rw [z32_toInt (by omega) (by omega)]; omega, by rw [z32_toInt (by omega) (by omega), e1]; omega⟩ (tsP_i h4 (tsP_i (by rw [h5]; exact inB_n hk (by omega)) ?_))))
  rw [ix_n (by omega), h7 k hk, g1]
  exact rtP_i g2 (qI_i (rtP_i g2 (qI_i hK)))
theorem STR.fr {I2 : IM} (h : STR I D s b t) (h1 : I2 s 1 = I s 1) (h2 : ∀ k, I2 b k = I b k) : STR I2 D s b t := by
  obtain ⟨g1, g2, g3, g4, g5, g6, g7, g8, g9, g10⟩ := h
  exact ⟨g1, g2, h1.trans g3, g4, g5, g6, fun k hk => (h2 k).trans (g7 k hk), g8, g9, g10⟩
theorem STR.ne (h : STR I D s b t) {a : Nat} (ha : a < 159) (hk : kdT a ≠ 13 ∧ kdT a ≠ 21) : s ≠ a ∧ b ≠ a := by
  obtain ⟨g1, g2, g3, g4, -⟩ := h
  constructor
  · intro e
    rw [e, kd_s ha] at g1
    exact hk.1 g1
  · intro e
    rw [e, kd_s ha] at g4
    exact hk.2 g4
end
/-! the constants of the law -/
def LW (I : IM) : Prop := (∀ j, 22 ≤ j → j < 40 → I (2 * j + 62) 1 = 0 ∧ ∀ k, k < (sL j).length → I (2 * j + 63) k = (sL j).getD k 0) ∧ ∀ k, k < 100 → I 142 k = digV 0 k ∧ I 143 k = digV 1 k
theorem LW.fr {I I2 : IM} (h : LW I) (hf : FrM I I2) : LW I2 := ⟨fun j h1 h2 => ⟨(hf _ _ (by omega) (by omega)).trans (h.1 j h1 h2).1, fun k hk => (hf _ _ (by omega) (by omega)).trans ((h.1 j h1 h2).2 k hk)⟩, fun k hk => ⟨(hf _ _ (by omega) (by omega)).trans (h.2 k hk).1, (hf _ _ (by omega) (by omega)).trans (h.2 k hk).2⟩⟩
theorem strH : ∀ j, j < 40 → kdT (plS j) = 13 ∧ isFn (plS j) 0 = true ∧ rfT (plS j) 0 = plS j + 1 ∧ kdT (plS j + 1) = 21 ∧ lnT (plS j + 1) = (sL j).length ∧ (sL j).length ≤ 60 ∧ plS j + 1 < 142 ∧ 0 < plS j := by decide +kernel
theorem strK : ∀ j, j < 40 → (sL j).all chrB = true := by decide +kernel
theorem STR.con {I : IM} {D : DY} {j : Nat} (hs : SOK I) (hl : LW I) (hz : 159 ≤ dZ D) (hj : j < 40) : STR I D (plS j) (plS j + 1) (sL j) := by
  obtain ⟨f1, f2, f3, f4, f5, f6, f7, f8⟩ := strH j hj
  have hI : I (plS j) 1 = 0 ∧ ∀ k, k < (sL j).length → I (plS j + 1) k = (sL j).getD k 0 := by
    unfold plS
    by_cases q : j < 22
    · rw [if_pos q]
      exact hs j q
    · rw [if_neg q]
      exact hl.1 j (by omega) hj
  exact ⟨(kd_s (by omega)).trans f1, (rf_s f2).trans (congrArg some f3), hI.1, (kd_s (by omega)).trans f4, (ln_s (by omega) (by omega)).trans f5, by omega, hI.2, fun x hx => List.all_eq_true.mp (strK j hj) x hx, by omega, by omega⟩
/-! telling -/
/-- but the tape -/
def TPF (I I2 : IM) : Prop := ∀ q j, q ≠ 46 → q ≠ 47 → I2 q j = I q j
theorem TPF.rf {I : IM} : TPF I I := fun _ _ _ _ => rfl
theorem TPF.tr {I I2 I3 : IM} (h : TPF I I2) (h2 : TPF I2 I3) : TPF I I3 := fun q j a b => (h2 q j a b).trans (h q j a b)
theorem TPF.m {I I2 : IM} (h : TPF I I2) : FrM I I2 := fun q k h1 h2 => h q k (by omega) (by omega)
section
variable {d : Nat} {I : IM} {D : DY}
theorem p_feedX {T : Tx} {σ : SS} {κ : Option SS} {K : Int32 → IM → Prop} (h : RC (T, σ, κ) I D) {c : Int32} (hc : chrB c = true) (hl : T.length < 160) (k : ∀ I2, TPF I I2 → RC (T ++ [c], σ, κ) I2 D → K (z32 ((T.length + 1 : Nat) : Int)) I2) : CI (d + 100) 11 [vR (some 45), vI c] (mm I D) K := by
  have h3 : TP I T := h.2.2.1
  have h160 := h3.2.1
  obtain ⟨-, -, c1, c2, -⟩ := chr_p hc
  refine s_S_feed _ ?_
  rw [e_within]
  refine br0 (fun hs => ?_) (fun hs => absurd ⟨c1, c2⟩ hs)
  refine s_Tape_add _ ?_
  rw [h3.1]
  refine brP_i (fun q => tsP_i (inB_n (by omega) (by omega)) (qI_i (qI_i ?_))) (fun q => ?_)
  · rw [ix_n (by omega), z32_s]
    refine k _ (fun q j g1 g2 => by rw [up2_ne (by omega), up2_ne (by omega)]) (h.mono (DX.rf (c := 0) (s := 0)) (fun q j g1 g2 => ?_) ⟨?_, ?_, fun j hj => ?_, fun x hx => ?_⟩)
    · unfold CSp at g2
      rw [up2_ne (by omega), up2_ne (by omega)]
    · rw [up2_eq, List.length_append, List.length_singleton]
    · rw [List.length_append, List.length_singleton]
      show T.length + 1 ≤ 160
      omega
    · rw [List.length_append, List.length_singleton] at hj
      have hj : j < T.length + 1 := hj
      rw [up2_ne (by omega), getD_snoc]
      by_cases e : j = T.length
      · rw [e, up2_eq, if_pos rfl]
      · rw [up2_nj e, if_neg e]
        exact h3.2.2.1 j (by omega)
    · rw [List.mem_append, List.mem_singleton] at hx
      rcases hx with hx | rfl
      · exact h3.2.2.2 x hx
      · have g1 : z32 1 ≤ x := c1
        have g2 : x ≤ z32 255 := c2
        rw [lit_le (by omega) (by omega)] at g1
        rw [le_lit (by omega) (by omega)] at g2
        exact ⟨g1, g2⟩
  · exact absurd (show z32 (T.length : Int) < z32 160 by rw [z32_lt (by omega) (by omega) (by omega) (by omega)]; omega) q
theorem q_count0 {τ : ST} {K : Int32 → IM → Prop} (h : RC τ I D) (k : K (z32 ((zL (tS τ)).length : Int)) I) : CI (d + 100) 162 [vR (some 45), vI 0] (mm I D) K := by
  refine s_S_count _ ?_
  refine brP_i (fun q => qI_i ?_) (fun q => absurd rfl q)
  rw [h.L.1]
  exact k
theorem q_count1 {τ : ST} {K : Int32 → IM → Prop} (h : RC τ I D) (k : K (z32 (eraC (zC (tS τ)) : Int)) I) : CI (d + 100) 162 [vR (some 45), vI 1] (mm I D) K := by
  refine s_S_count _ ?_
  refine brP_i (fun q => absurd q (by decide)) (fun q => ?_)
  refine brP_i (fun q => qI_i ?_) (fun q => absurd rfl q)
  rw [show I 63 4 = z32 (eraC (zC (tS τ)) : Int) from h.M.1]
  exact k
theorem q_count2 {τ : ST} {K : Int32 → IM → Prop} (h : RC τ I D) (k : K (z32 ((tT τ).length : Int)) I) : CI (d + 100) 162 [vR (some 45), vI 2] (mm I D) K := by
  refine s_S_count _ ?_
  refine brP_i (fun q => absurd q (by decide)) (fun q => ?_)
  refine brP_i (fun q => absurd q (by decide)) (fun q => ?_)
  refine brP_i (fun q => qI_i ?_) (fun q => absurd rfl q)
  rw [h.2.2.1.1]
  exact k
theorem tell_loop {σ : SS} {κ : Option SS} {s b : Nat} {t : Tx} {K : Int32 → IM → Prop} {I0 : IM} (hK : ∀ I2, TPF I0 I2 → RC (t, σ, κ) I2 D → K 1 I2) : ∀ (post pre : Tx) (I : IM), pre ++ post = t → STR I D s b t → TPF I0 I → RC (pre, σ, κ) I D →
    Wp GG (d + 101) 193 2 [vR (some 45), vR (some s), vI (z32 (pre.length : Int))] [] (mm I D) (qI (mm I0 D) K) := by
  intro post
  induction post with
  | nil =>
    intro pre I hp hS hf hR
    rw [List.append_nil] at hp
    subst hp
    have hl := hS.2.2.2.2.2.1
    refine s_L_tell_2 _ _ (tsP_i hS.1 (g_len (d := d + 99) hS ?_))
    refine brP_i (fun _ => ?_) (fun q => absurd (show z32 (pre.length : Int) ≤ z32 (pre.length : Int) by rw [z32_le] <;> omega) q)
    refine q_count2 hR (tsP_i hS.1 (g_len (d := d + 99) hS ?_))
    exact brP_i (fun q => absurd rfl q) (fun _ => qI_i (hK I hf hR))
  | cons c post ih =>
    intro pre I hp hS hf hR
    have hl := hS.2.2.2.2.2.1
    have hlen : t.length = pre.length + (post.length + 1) := by rw [← hp, List.length_append, List.length_cons]
    have hget : t.getD pre.length 0 = c := by rw [List.getD_eq_getElem?_getD, ← hp, get_mid]; rfl
    have hc : chrB c = true := hS.2.2.2.2.2.2.2.1 c (by rw [← hp]; exact List.mem_append_right _ (List.mem_cons_self ..))
    have n46 := hS.ne (a := 46) (by decide) (by decide)
    have n47 := hS.ne (a := 47) (by decide) (by decide)
    refine s_L_tell_2 _ _ (tsP_i hS.1 (g_len (d := d + 99) hS ?_))
    refine brP_i (fun q => absurd q (show ¬ z32 (t.length : Int) ≤ z32 (pre.length : Int) by rw [z32_le (by omega) (by omega) (by omega) (by omega)]; omega)) (fun _ => ?_)
    refine tsP_i hS.1 (g_chat (d := d + 97) hS (by omega) ?_)
    rw [hget]
    refine p_feedX hR hc (by omega) (fun I2 f2 R2 => ?_)
    refine brP_i (fun _ => ?_) (fun q => absurd (z32_s pre.length).symm q)
    have := ih (pre ++ [c]) I2 (by rw [List.append_assoc]; exact hp) (hS.fr (f2 _ _ n46.1 n47.1) (fun k => f2 _ _ n46.2 n47.2)) (hf.tr f2) R2
    rw [List.length_append, List.length_singleton] at this
    rw [z32_s]
    exact this
theorem tell_ok {σ : SS} {κ : Option SS} {s b : Nat} {t : Tx} {K : Int32 → IM → Prop} (hS : STR I D s b t) (hR : RC ([], σ, κ) I D) (hK : ∀ I2, TPF I I2 → RC (t, σ, κ) I2 D → K 1 I2) : CI (d + 101) 193 [vR (some 45), vR (some s)] (mm I D) K :=
  s_L_tell _ (tell_loop (d := d) hK t [] I rfl hS TPF.rf hR)
theorem tell_con {σ : SS} {κ : Option SS} {j : Nat} {K : Int32 → IM → Prop} (hj : j < 40) (hl : LW I) (hR : RC ([], σ, κ) I D) (hK : ∀ I2, TPF I I2 → RC (sL j, σ, κ) I2 D → K 1 I2) : CI (d + 101) 193 [vR (some 45), vR (some (plS j))] (mm I D) K :=
  tell_ok (STR.con hR.2.1 hl hR.1 hj) hR hK
end
