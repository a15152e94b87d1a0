/-! Numbers of the script; the text of a command. -/
theorem z32_divN {a b : Nat} (ha : a < 2147483648) (hb : b < 2147483648) (h0 : 0 < b) : z32 (a : Int) / z32 (b : Int) = z32 ((a / b : Nat) : Int) := by
  have hq : a / b ≤ a := Nat.div_le_self a b
  obtain ⟨q, hq2⟩ : ∃ q, q = a / b := ⟨_, rfl⟩
  rw [← hq2] at hq ⊢
  refine Int32.toInt_inj.mp ?_
  rw [Int32.toInt_div_of_ne_right _ _ (fun e => ?_), z32_toInt (by omega) (by omega), z32_toInt (by omega) (by omega), z32_toInt (by omega) (by omega)]
  · rw [hq2]
    rfl
  · have e : z32 (b : Int) = z32 (-1) := e
    rw [z32_inj (by omega) (by omega) (by omega) (by omega)] at e
    omega
theorem z32_mod {a b : Nat} (ha : a < 2147483648) (hb : b < 2147483648) (h0 : 0 < b) : z32 (a : Int) - z32 (a : Int) / z32 (b : Int) * z32 (b : Int) = z32 ((a % b : Nat) : Int) := by
  rw [z32_divN ha hb h0, z32_mul, z32_sub]
  congr 1
  have := Nat.div_add_mod a b
  have e : ((a / b : Nat) : Int) * (b : Int) = ((b * (a / b) : Nat) : Int) := by
    rw [Nat.mul_comm]
    rfl
  rw [e]
  omega
theorem shr_k : ∀ k : Nat, k < 32 → ((z32 (k : Int)).toBitVec.smod 32).toNat = k := by decide +kernel
theorem z32_shr {a k : Nat} (ha : a < 2147483648) (hk : k < 32) : z32 (a : Int) >>> z32 (k : Int) = z32 ((a / 2 ^ k : Nat) : Int) := by
  have hq : a / 2 ^ k ≤ a := Nat.div_le_self _ _
  refine Int32.toInt_inj.mp ?_
  obtain ⟨c, hc⟩ : ∃ c, c = a / 2 ^ k := ⟨_, rfl⟩
  rw [← hc] at hq ⊢
  rw [← Int32.toInt_toBitVec, Int32.toBitVec_shiftRight]
  show ((z32 (a : Int)).toBitVec.sshiftRight ((z32 (k : Int)).toBitVec.smod 32).toNat).toInt = _
  rw [BitVec.toInt_sshiftRight, shr_k k hk, Int32.toInt_toBitVec, z32_toInt (by omega) (by omega), z32_toInt (by omega) (by omega), Int.shiftRight_eq_div_pow, hc]
  rfl
/-! what a number of the script says -/
def kN (v : Nat) : Nat := if (z32 (v : Int)) &&& 64 = 0 then 1 else v / 128 % 8
def aMt (v : Nat) : Nat := if kN v = 7 then 0 else v / 1024 % 40
theorem kN_lt (v : Nat) : kN v < 8 := by
  unfold kN
  split <;> omega
theorem aMt_lt (v : Nat) : aMt v < 40 := by
  unfold aMt
  split <;> omega
section
variable {d : Nat} {I : IM} {D : DY}
theorem e_streamOf {K : Int32 → IM → Prop} {v : Nat} (hv : v < 16777216) (k : K (z32 ((v % 3 : Nat) : Int)) I) : CI d 196 [vI (z32 (v : Int))] (mm I D) K := by
  refine s_L_streamOf _ (qI_i ?_)
  rw [show (3 : Int32) = z32 ((3 : Nat) : Int) from rfl, z32_mod (by omega) (by omega) (by omega)]
  exact k
theorem e_kindOf {K : Int32 → IM → Prop} {v : Nat} (hv : v < 16777216) (k : K (z32 (kN v : Int)) I) : CI d 197 [vI (z32 (v : Int))] (mm I D) K := by
  unfold kN at k
  refine s_L_kindOf _ (brP_i (fun q => qI_i ?_) (fun q => qI_i ?_))
  · rw [if_neg q] at k
    rw [show (7 : Int32) = z32 ((7 : Nat) : Int) from rfl, show (8 : Int32) = z32 ((8 : Nat) : Int) from rfl, z32_shr (by omega) (by omega), z32_mod (by omega) (by omega) (by omega)]
    exact k
  · rw [if_pos (Classical.not_not.mp q)] at k
    exact k
theorem e_amountOf {K : Int32 → IM → Prop} {v : Nat} (hv : v < 16777216) (k : K (z32 (aMt v : Int)) I) : CI (d + 1) 198 [vI (z32 (v : Int))] (mm I D) K := by
  unfold aMt at k
  have h8 := kN_lt v
  refine s_L_amountOf _ (e_kindOf hv (brP_i (fun q => qI_i ?_) (fun q => qI_i ?_)))
  · have q : ¬ z32 (kN v : Int) = z32 7 := q
    rw [z32_inj (by omega) (by omega) (by omega) (by omega)] at q
    rw [if_neg (by omega)] at k
    rw [show (10 : Int32) = z32 ((10 : Nat) : Int) from rfl, show (40 : Int32) = z32 ((40 : Nat) : Int) from rfl, z32_shr (by omega) (by omega), z32_mod (by omega) (by omega) (by omega)]
    exact k
  · have q : ¬ ¬ z32 (kN v : Int) = z32 7 := q
    rw [z32_inj (by omega) (by omega) (by omega) (by omega)] at q
    rw [if_pos (by omega)] at k
    exact k
theorem e_targetOf {K : Int32 → IM → Prop} {v : Nat} (hv : v < 16777216) (k : K (z32 ((v / 65536 % 3 : Nat) : Int)) I) : CI d 199 [vI (z32 (v : Int))] (mm I D) K := by
  refine s_L_targetOf _ (qI_i ?_)
  rw [show (16 : Int32) = z32 ((16 : Nat) : Int) from rfl, show (3 : Int32) = z32 ((3 : Nat) : Int) from rfl, z32_shr (by omega) (by omega), z32_mod (by omega) (by omega) (by omega)]
  exact k
/-! the String at last -/
theorem e_chkLen {K : IM → Prop} {m : Nat} (hm : m ≤ 1000) (k : K I) : CV (d + 1) 190 [vI 0, vI (z32 (m : Int))] (mm I D) K := by
  refine s_Arrays_chkLen _ _ (brP_i (fun _ => qV_i k) (fun q => absurd ?_ q))
  show z32 0 ≤ z32 (m : Int)
  rw [z32_le (by omega) (by omega) (by omega) (by omega)]
  omega
theorem e_range {K : Option Nat → IM → DY → Prop} {v n m : Nat} (hv : 159 ≤ v ∧ v < dZ D ∧ dK D v = 21 ∧ dN D v = n) (hm : m ≤ n) (hn : n ≤ 202) (k : ∀ I2, (∀ q j, q < dZ D → I2 q j = I q j) → (∀ j, j < m → I2 (dZ D) j = I v j) → K (some (dZ D)) I2 (dmk D 21 m 2)) : AR (d + 3) 188 [vR (some v), vI 0, vI (z32 (m : Int))] (mm I D) K := by
  obtain ⟨v1, v2, v3, v4⟩ := hv
  have hz : 159 ≤ dZ D := by omega
  have k1 : pKd (mm I D) v = 21 := (mmK v1).trans v3
  have k2 : pLn (mm I D) v = n := (mmN v1).trans v4
  refine s_Arrays_range _ _ _ (brP_i (fun q => absurd rfl q) (fun _ => tsP_i (by rw [k1]; decide) ?_))
  rw [k2]
  refine brP_i (fun q => ?_) (fun q => ?_)
  · have q : z32 (m : Int) = z32 (n : Int) := q
    rw [z32_inj (by omega) (by omega) (by omega) (by omega)] at q
    obtain rfl : m = n := by omega
    refine tsP_i ⟨k1, v1⟩ ?_
    refine ⟨cpI (upr I (dZ D) 0) v (dZ D) 0 0 m, dmk D 21 m 2, ?_, ?_⟩
    · rw [k2]
      have := mk_mm (I := I) (c := 21) (n := m) 2 hz
      show cpyM (mkN (mm I D) 21 m) v (dZ D) 0 0 m = _
      rw [this]
      rfl
    · refine tsP_i ⟨(mmK hz).trans up1_eq, hz⟩ (aR_i rfl (k _ (fun q j hq => ?_) (fun j hj => ?_)))
      · unfold cpI
        rw [if_neg (by omega), upr_ne (by omega)]
      · unfold cpI
        rw [if_pos ⟨rfl, by omega, by omega⟩, upr_ne (by omega), Nat.sub_zero, Nat.zero_add]
  · have q : ¬ z32 (m : Int) = z32 (n : Int) := q
    rw [z32_inj (by omega) (by omega) (by omega) (by omega)] at q
    refine s_Arrays_rangeB _ _ _ (e_chkLen (d := d) (m := m) (by omega) ?_)
    have e0 : z32 (m : Int) - 0 = z32 (m : Int) := Int32.sub_zero _
    rw [e0]
    refine tsP_i ⟨by rw [z32_toInt (by omega) (by omega)]; omega, by rw [z32_toInt (by omega) (by omega)]; omega⟩ ?_
    rw [ix_n (by omega)]
    have m1 : pKd (mm (upr I (dZ D) 0) (dmk D 21 m 2)) v = 21 := (mmK v1).trans ((up1_ne (by omega)).trans v3)
    have m2 : pLn (mm (upr I (dZ D) 0) (dmk D 21 m 2)) v = n := (mmN v1).trans ((up1_ne (by omega)).trans v4)
    have m3 : pKd (mm (upr I (dZ D) 0) (dmk D 21 m 2)) (dZ D) = 21 := (mmK hz).trans up1_eq
    have m4 : pLn (mm (upr I (dZ D) 0) (dmk D 21 m 2)) (dZ D) = m := (mmN hz).trans up1_eq
    refine can_mk 2 hz (tsP_i (by rw [m1]; decide) ?_)
    rw [m2]
    have e1 : Int32.ofNat n - 0 = z32 (n : Int) := Int32.sub_zero _
    rw [e1]
    refine j_min (m := (n : Int)) (n := (m : Int)) (by omega) (by omega) (fun x hx x1 x2 => ?_)
    obtain rfl : x = (m : Int) := by omega
    refine tsP_i ⟨m1, m3, hz⟩ ?_
    rw [m2, m4, ix_n (by omega), z32_toInt (n := (m : Int)) (by omega) (by omega)]
    refine tsP_i ⟨by decide, by decide, by omega, ?_, ?_⟩ (aR_i rfl (aR_i rfl (k _ (fun q j hq => ?_) (fun j hj => ?_))))
    · show (0 : Int) + _ ≤ _
      omega
    · show (0 : Int) + _ ≤ _
      omega
    · unfold cpI
      rw [if_neg (by omega), upr_ne (by omega)]
    · unfold cpI
      rw [if_pos ⟨rfl, by omega, by omega⟩, upr_ne (by omega), Nat.sub_zero]
      show I v (ixN 0 + j) = _
      rw [show ixN 0 = 0 from rfl, Nat.zero_add]
theorem e_toStr {K : Option Nat → IM → DY → Prop} {a v n : Nat} {t : Tx} (h : SBR I D a v n t) (k : ∀ I2 D2, CHX (fun _ => False) I D I2 D2 2 94 → STR I2 D2 (dZ D) (dZ D + 1) t → K (some (dZ D)) I2 D2) : AR (d + 6) 170 [vR (some a)] (mm I D) K := by
  have hz : 159 ≤ dZ D := Nat.le_trans h.1.1 (Nat.le_of_lt h.1.2.1)
  have c1 : CHX (fun _ => False) I D (upr I (dZ D) 0) (dmk D 13 4 2) 1 4 := ⟨DX.mk, fun q j hq _ => upr_ne (by omega)⟩
  have b1 : SBR (upr I (dZ D) 0) (dmk D 13 4 2) a v n t := h.chx c1 id id
  obtain ⟨m1, m2, m3, m4, m5, m6⟩ := b1.kd
  have mz : pKd (mm (upr I (dZ D) 0) (dmk D 13 4 2)) (dZ D) = 13 := (mmK hz).trans up1_eq
  refine s_SB_toString _ (can_mk 2 hz (tsP_i mz ?_))
  refine s_String_initB _ _ (tsP_i mz ?_)
  refine s_String_initA _ _ _ (tsP_i m1 (s_AB_getValue _ (tsP_i m1 (qR_i (tsP_i m1 ?_)))))
  refine s_SB_length _ (tsP_i m1 (s_AB_length _ (tsP_i m1 (qI_i (qI_i (tsP_i m1 ?_))))))
  refine s_AB_isLatin1 _ (tsP_i m1 (brP_i (fun q => absurd b1.1.2.2.2.2.1 q) (fun _ => qI_i ?_)))
  refine brP_i (fun q => absurd q (by decide)) (fun _ => tsP_i mz (tsP_i (by decide) (tsP_i hz ?_)))
  rw [m2, b1.1.2.2.2.2.2]
  have av : a ≠ dZ D := by have := h.1.2.1; omega
  have vz : v < dZ D := h.2.1.2.1
  have c2 : CHX (fun q => q = dZ D) (upr I (dZ D) 0) (dmk D 13 4 2) (up2 (upr I (dZ D) 0) (dZ D) 1 0) (dmk D 13 4 2) 0 0 := CHX.num (fun q j hq hx => up2_ne hx)
  have b2 : SBR (up2 (upr I (dZ D) 0) (dZ D) 1 0) (dmk D 13 4 2) a v n t := b1.chx c2 av (by omega)
  have l2 := b2.2.2.2.1
  have l1 := b2.2.2.1
  have l3 := b2.2.2.2.2.1
  refine e_range (d := d) ⟨b2.2.1.1, b2.2.1.2.1, b2.2.1.2.2.2.1, b2.2.1.2.2.2.2⟩ l1 l2 (fun I2 f2 g2 => ?_)
  have z1 : dZ (dmk D 13 4 2) = dZ D + 1 := rfl
  have ka : ∀ J, pKd (mm J (dmk (dmk D 13 4 2) 21 t.length 2)) (dZ D) = 13 := fun J => (mmK hz).trans ((up1_ne (by omega)).trans up1_eq)
  refine tsP_i (ka _) (tsP_i hz (aV_i (setR_m (isFn_new hz)) (aV_i rfl (aR_i rfl (k _ _ ⟨?_, fun q j hq _ => ?_⟩ ?_)))))
  · exact (((DX.mk (X := fun _ => False) (D := D) (c := 13) (n := 4) (w := 2)).tr DX.mk).setN (Nat.le_refl _)).le (Nat.le_refl _) (by omega)
  · rw [f2 q j (by omega), up2_ne (by omega), upr_ne (by omega)]
  · refine ⟨ka I2, ?_, ?_, ?_, ?_, by omega, fun j hj => ?_, b2.2.2.2.2.2.2, Nat.lt_succ_of_lt (Nat.lt_succ_self _), Nat.lt_succ_self _⟩
    · refine (mmR (isFn_new hz)).trans ?_
      exact up2_eq
    · rw [f2 _ _ (by omega)]
      exact up2_eq
    · refine (mmK (show 159 ≤ dZ D + 1 by omega)).trans ?_
      exact up1_eq
    · refine (mmN (show 159 ≤ dZ D + 1 by omega)).trans ?_
      exact up1_eq
    · exact (g2 j hj).trans (b2.2.2.2.2.2.1 j hj)
end
