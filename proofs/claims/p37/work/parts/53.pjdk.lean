/-! The builder of Strings. -/
/-- what was there and is not of X is as it was -/
def CHX (X : Nat → Prop) (I : IM) (D : DY) (I2 : IM) (D2 : DY) (c s : Nat) : Prop := DX X D D2 c s ∧ ∀ q j, q < dZ D → ¬ X q → I2 q j = I q j
theorem CHX.rf {X : Nat → Prop} {I : IM} {D : DY} {c s : Nat} : CHX X I D I D c s := ⟨DX.rf, fun _ _ _ _ => rfl⟩
theorem DX.in {X Y : Nat → Prop} {D D2 : DY} {c s : Nat} (h : DX Y D D2 c s) (hY : ∀ q, q < dZ D → Y q → X q) : DX X D D2 c s := ⟨h.1, h.2.1, h.2.2.1, fun a ha => by
  obtain ⟨h1, h2, h3, h4⟩ := h.2.2.2 a ha
  exact ⟨h1, h2, h3, fun q => h4 (fun z => q (hY a ha z))⟩⟩
theorem DX.tr2 {X Y : Nat → Prop} {D D2 D3 : DY} {c s c2 s2 : Nat} (h : DX X D D2 c s) (h2 : DX Y D2 D3 c2 s2) (hY : ∀ q, q < dZ D → Y q → X q) : DX X D D3 (c + c2) (s + s2) := by
  obtain ⟨a1, a2, a3, a4⟩ := h
  obtain ⟨b1, b2, b3, b4⟩ := h2
  refine ⟨by omega, by omega, by omega, fun a ha => ?_⟩
  obtain ⟨c1, c2, c3, c4⟩ := a4 a ha
  obtain ⟨d1, d2, d3, d4⟩ := b4 a (by omega)
  exact ⟨d1.trans c1, d2.trans c2, d3.trans c3, fun hx j => (d4 (fun z => hx (hY a ha z)) j).trans (c4 hx j)⟩
theorem CHX.tr {X Y : Nat → Prop} {I I2 I3 : IM} {D D2 D3 : DY} {c s c2 s2 : Nat} (h : CHX X I D I2 D2 c s) (h2 : CHX Y I2 D2 I3 D3 c2 s2) (hY : ∀ q, q < dZ D → Y q → X q) : CHX X I D I3 D3 (c + c2) (s + s2) :=
  ⟨h.1.tr2 h2.1 hY, fun q j hq hx => (h2.2 q j (Nat.lt_of_lt_of_le hq h.1.1) (fun z => hx (hY q hq z))).trans (h.2 q j hq hx)⟩
theorem CHX.le {X : Nat → Prop} {I I2 : IM} {D D2 : DY} {c s c2 s2 : Nat} (h : CHX X I D I2 D2 c s) (h1 : c ≤ c2) (h2 : s ≤ s2) : CHX X I D I2 D2 c2 s2 := ⟨h.1.le h1 h2, h.2⟩
theorem CHX.in {X Y : Nat → Prop} {I I2 : IM} {D D2 : DY} {c s : Nat} (h : CHX Y I D I2 D2 c s) (hY : ∀ q, q < dZ D → Y q → X q) : CHX X I D I2 D2 c s := ⟨h.1.in hY, fun q j hq hx => h.2 q j hq (fun z => hx (hY q hq z))⟩
/-- only whole numbers changed, in rows of X -/
theorem CHX.num {X : Nat → Prop} {I I2 : IM} {D : DY} {c s : Nat} (h : ∀ q j, q < dZ D → ¬ X q → I2 q j = I q j) : CHX X I D I2 D c s := ⟨DX.rf, h⟩
theorem STR.chx {X : Nat → Prop} {I I2 : IM} {D D2 : DY} {c s0 s b : Nat} {t : Tx} (h : STR I D s b t) (hc : CHX X I D I2 D2 c s0) (h1 : ¬ X s) (h2 : ¬ X b) : STR I2 D2 s b t := by
  obtain ⟨g1, g2, g3, g4, g5, g6, g7, g8, g9, g10⟩ := h
  obtain ⟨s1, s2, s3, s4⟩ := hc.1.2.2.2 s g9
  obtain ⟨b1, b2, b3, b4⟩ := hc.1.2.2.2 b g10
  have z := hc.1.1
  have kk : ∀ a, dK D2 a = dK D a → pKd (mm I2 D2) a = pKd (mm I D) a := fun a e => by
    show (bif Nat.ble nST a then dK D2 a else kdT a) = (bif Nat.ble nST a then dK D a else kdT a)
    rw [e]
  have b0 : b ≠ 0 := fun e => by
    rw [e, kd_s (by omega)] at g4
    exact absurd g4 (by decide)
  refine ⟨(kk s s1).trans g1, ?_, (hc.2 s 1 g9 h1).trans g3, (kk b b1).trans g4, ?_, g6, fun k hk => (hc.2 b k g10 h2).trans (g7 k hk), g8, by omega, by omega⟩
  · refine Eq.trans ?_ g2
    show (bif isFn s 0 then some (rfT s 0) else dR D2 s 0) = (bif isFn s 0 then some (rfT s 0) else dR D s 0)
    rw [s4 h1 0]
  · refine Eq.trans ?_ g5
    show (bif Nat.ble nST b then dN D2 b else (bif Nat.beq b 0 then dN D2 0 else lnT b)) = (bif Nat.ble nST b then dN D b else (bif Nat.beq b 0 then dN D 0 else lnT b))
    have : Nat.beq b 0 = false := by
      cases hq : Nat.beq b 0 with
      | false => rfl
      | true => exact absurd (Nat.eq_of_beq_eq_true hq) b0
    rw [b2, this]
    rfl
/-- a builder, its bytes, their number, its text -/
def SBR (I : IM) (D : DY) (a v n : Nat) (t : Tx) : Prop := (159 ≤ a ∧ a < dZ D ∧ dK D a = 12 ∧ dR D a 0 = some v ∧ I a 1 = 0 ∧ I a 3 = z32 (t.length : Int)) ∧ (159 ≤ v ∧ v < dZ D ∧ v ≠ a ∧ dK D v = 21 ∧ dN D v = n) ∧ t.length ≤ n ∧ n ≤ 202 ∧ t.length ≤ 90 ∧ (∀ k, k < t.length → I v k = t.getD k 0) ∧ ∀ x ∈ t, chrB x = true
theorem SBR.kd {I : IM} {D : DY} {a v n : Nat} {t : Tx} (h : SBR I D a v n t) : pKd (mm I D) a = 12 ∧ pR (mm I D) a 0 = some v ∧ pKd (mm I D) v = 21 ∧ pLn (mm I D) v = n ∧ 19 ≤ pKd (mm I D) v ∧ pKd (mm I D) v < 26 := by
  obtain ⟨⟨a1, a2, a3, a4, a5, a6⟩, ⟨v1, v2, v3, v4, v5⟩, -⟩ := h
  have e : pKd (mm I D) v = 21 := (mmK v1).trans v4
  exact ⟨(mmK a1).trans a3, (mmR (isFn_new a1)).trans a4, e, (mmN v1).trans v5, by rw [e]; decide, by rw [e]; decide⟩
theorem SBR.chx {X : Nat → Prop} {I I2 : IM} {D D2 : DY} {c s0 a v n : Nat} {t : Tx} (h : SBR I D a v n t) (hc : CHX X I D I2 D2 c s0) (h1 : ¬ X a) (h2 : ¬ X v) : SBR I2 D2 a v n t := by
  obtain ⟨⟨a1, a2, a3, a4, a5, a6⟩, ⟨v1, v2, v3, v4, v5⟩, l1, l2, l3, l4, l5⟩ := h
  obtain ⟨s1, s2, s3, s4⟩ := hc.1.2.2.2 a a2
  obtain ⟨b1, b2, b3, b4⟩ := hc.1.2.2.2 v v2
  have z := hc.1.1
  exact ⟨⟨a1, by omega, s1.trans a3, (s4 h1 0).trans a4, (hc.2 a 1 a2 h1).trans a5, (hc.2 a 3 a2 h1).trans a6⟩, ⟨v1, by omega, v3, b1.trans v4, b2.trans v5⟩, l1, l2, l3, fun k hk => (hc.2 v k v2 h2).trans (l4 k hk), l5⟩
section
variable {d : Nat} {I : IM} {D : DY}
theorem j_max {K : Int32 → IM → Prop} {m n : Int} (h1 : -1000 ≤ m ∧ m ≤ 1000) (h2 : -1000 ≤ n ∧ n ≤ 1000) (k : ∀ c : Int, (c = m ∨ c = n) → m ≤ c → n ≤ c → K (z32 c) I) : CI d 39 [vI (z32 m), vI (z32 n)] (mm I D) K := by
  refine s_Math_max _ _ (brP_i (fun q => qI_i ?_) (fun q => qI_i ?_))
  · rw [z32_lt (by omega) (by omega) (by omega) (by omega)] at q
    exact k n (Or.inr rfl) (by omega) (by omega)
  · rw [z32_lt (by omega) (by omega) (by omega) (by omega)] at q
    exact k m (Or.inl rfl) (by omega) (by omega)
theorem j_min {K : Int32 → IM → Prop} {m n : Int} (h1 : -1000 ≤ m ∧ m ≤ 1000) (h2 : -1000 ≤ n ∧ n ≤ 1000) (k : ∀ c : Int, (c = m ∨ c = n) → c ≤ m → c ≤ n → K (z32 c) I) : CI d 40 [vI (z32 m), vI (z32 n)] (mm I D) K := by
  refine s_Math_min _ _ (brP_i (fun q => qI_i ?_) (fun q => qI_i ?_))
  · rw [z32_lt (by omega) (by omega) (by omega) (by omega)] at q
    exact k n (Or.inr rfl) (by omega) (by omega)
  · rw [z32_lt (by omega) (by omega) (by omega) (by omega)] at q
    exact k m (Or.inl rfl) (by omega) (by omega)
theorem e_newLen {K : Int32 → IM → Prop} {n m : Nat} (hn : n ≤ 202) (hm : m ≤ 100) (hlt : n < m) (k : ∀ c : Nat, n < c → m ≤ c → c ≤ 202 → K (z32 (c : Int)) I) : CI (d + 1) 191 [vI (z32 (n : Int)), vI (z32 ((m : Int) - n)), vI (z32 ((n : Int) + 2))] (mm I D) K := by
  refine s_AS_newLength _ _ _ (j_max (by omega) (by omega) (fun c hc c1 c2 => ?_))
  rw [z32_add]
  refine brP_i (fun q => absurd q ?_) (fun _ => brP_i (fun q => absurd q ?_) (fun _ => qI_i ?_))
  · show ¬ z32 _ ≤ z32 0
    rw [z32_le (by omega) (by omega) (by omega) (by omega)]
    omega
  · show ¬ z32 2147483639 < z32 _
    rw [z32_lt (by omega) (by omega) (by omega) (by omega)]
    omega
  · have e : (n : Int) + c = (((n : Int) + c).toNat : Nat) := by omega
    rw [e]
    exact k _ (by omega) (by omega) (by omega)
theorem e_newCap {K : Int32 → IM → Prop} {a v n m : Nat} {t : Tx} (h : SBR I D a v n t) (hm : m ≤ 100) (hlt : n < m) (k : ∀ c : Nat, n < c → m ≤ c → c ≤ 202 → K (z32 (c : Int)) I) : CI (d + 2) 176 [vR (some a), vI (z32 (m : Int))] (mm I D) K := by
  obtain ⟨k1, k2, k3, k4, k5, k6⟩ := h.kd
  have hc : I a 1 = 0 := h.1.2.2.2.2.1
  have hn := h.2.2.2.1
  refine s_AB_newCap _ _ (tsP_i k1 (onR_i k2 (tsP_i ⟨k5, k6⟩ (tsP_i k1 (tsP_i k1 ?_)))))
  rw [k4, hc, shl0, shl0]
  have e1 : z32 (m : Int) - Int32.ofNat n = z32 ((m : Int) - n) := z32_sub (m : Int) (n : Int)
  have e2 : Int32.ofNat n + 2 = z32 ((n : Int) + 2) := z32_add (n : Int) 2
  rw [e1, e2]
  refine e_newLen (d := d) hn hm hlt (fun c c1 c2 c3 => ?_)
  refine brP_i (fun _ => tsP_i k1 ?_) (fun q => absurd ?_ q)
  · rw [hc, shr0]
    exact qI_i (k c c1 c2 c3)
  · intro e
    have e : z32 (c : Int) = z32 2147483647 := e
    rw [z32_inj (by omega) (by omega) (by omega) (by omega)] at e
    omega
theorem e_copyB {K : Option Nat → IM → DY → Prop} {v n c : Nat} (hz : 159 ≤ dZ D) (hv : 159 ≤ v ∧ v < dZ D ∧ dK D v = 21 ∧ dN D v = n) (hn : n ≤ 202) (hc : c ≤ 300) (hlt : n < c) (k : K (some (dZ D)) (cpI (upr I (dZ D) 0) v (dZ D) 0 0 n) (dmk D 21 c 2)) : AR (d + 1) 187 [vR (some v), vI (z32 (c : Int))] (mm I D) K := by
  obtain ⟨v1, v2, v3, v4⟩ := hv
  have k1 : pKd (mm I D) v = 21 := (mmK v1).trans v3
  have k2 : pLn (mm I D) v = n := (mmN v1).trans v4
  have m1 : pKd (mm (upr I (dZ D) 0) (dmk D 21 c 2)) v = 21 := (mmK v1).trans ((up1_ne (by omega)).trans v3)
  have m2 : pLn (mm (upr I (dZ D) 0) (dmk D 21 c 2)) v = n := (mmN v1).trans ((up1_ne (by omega)).trans v4)
  have m3 : pKd (mm (upr I (dZ D) 0) (dmk D 21 c 2)) (dZ D) = 21 := (mmK hz).trans up1_eq
  have m4 : pLn (mm (upr I (dZ D) 0) (dmk D 21 c 2)) (dZ D) = c := (mmN hz).trans up1_eq
  refine s_Arrays_copyOfB _ _ (tsP_i (by rw [k1]; decide) ?_)
  rw [k2]
  refine brP_i (fun _ => ?_) (fun q => absurd ?_ q)
  · refine tsP_i ⟨by rw [z32_toInt (by omega) (by omega)]; omega, by rw [z32_toInt (by omega) (by omega)]; omega⟩ ?_
    rw [ix_n (by omega)]
    refine can_mk 2 hz (tsP_i (by rw [m1]; decide) ?_)
    rw [m2]
    refine j_min (m := (n : Int)) (n := (c : Int)) (by omega) (by omega) (fun x hx x1 x2 => ?_)
    obtain rfl : x = (n : Int) := by omega
    refine tsP_i ⟨m1, m3, hz⟩ ?_
    rw [m2, m4, ix_n (by omega), z32_toInt (n := (n : Int)) (by omega) (by omega)]
    refine tsP_i ⟨by decide, by decide, by omega, ?_, ?_⟩ (aR_i rfl k)
    · show (0 : Int) + _ ≤ _
      omega
    · show (0 : Int) + _ ≤ _
      omega
  · intro e
    have e : z32 (c : Int) = z32 (n : Int) := e
    rw [z32_inj (by omega) (by omega) (by omega) (by omega)] at e
    omega
/-- room is made -/
theorem e_ensure {K : IM → DY → Prop} {a v n m : Nat} {t : Tx} (h : SBR I D a v n t) (hm : m ≤ 100) (k : ∀ I2 D2 v2 n2, CHX (fun q => q = a) I D I2 D2 1 202 → SBR I2 D2 a v2 n2 t → m ≤ n2 → (v2 = v ∨ v2 = dZ D) → K I2 D2) : AV (d + 3) 175 [vR (some a), vI (z32 (m : Int))] (mm I D) K := by
  obtain ⟨k1, k2, k3, k4, k5, k6⟩ := h.kd
  obtain ⟨⟨a1, a2, a3, a4, a5, a6⟩, ⟨v1, v2, v3, v4, v5⟩, l1, l2, l3, l4, l5⟩ := h
  have h0 : SBR I D a v n t := ⟨⟨a1, a2, a3, a4, a5, a6⟩, ⟨v1, v2, v3, v4, v5⟩, l1, l2, l3, l4, l5⟩
  have hz : 159 ≤ dZ D := by omega
  refine s_AB_ensure _ _ (tsP_i k1 (onR_i k2 (tsP_i ⟨k5, k6⟩ (tsP_i k1 ?_))))
  rw [k4, a5, shr0]
  have e1 : z32 (m : Int) - Int32.ofNat n = z32 ((m : Int) - n) := z32_sub (m : Int) (n : Int)
  rw [e1]
  refine brP_i (fun q => aV_i rfl ?_) (fun q => tsP_i k1 (tsP_i k1 ?_))
  · have q : z32 ((m : Int) - n) ≤ z32 0 := q
    rw [z32_le (by omega) (by omega) (by omega) (by omega)] at q
    exact k I D v n CHX.rf h0 (by omega) (Or.inl rfl)
  · have q : ¬ z32 ((m : Int) - n) ≤ z32 0 := q
    rw [z32_le (by omega) (by omega) (by omega) (by omega)] at q
    refine e_newCap (d := d) h0 hm (by omega) (fun c c1 c2 c3 => tsP_i k1 ?_)
    rw [a5, shl0, k2]
    refine e_copyB (d := d + 1) hz ⟨v1, v2, v4, v5⟩ l2 (by omega) c1 ?_
    refine tsP_i ((mmK a1).trans ((up1_ne (by omega)).trans a3)) ?_
    refine aV_i (setR_m (isFn_new a1)) (k _ _ (dZ D) c ⟨?_, ?_⟩ ?_ c2 (Or.inr rfl))
    · have q1 : DX (fun q => q = a) D (dset (dmk D 21 c 2) a 0 (some (dZ D))) (1 + 0) (c + 0) := (DX.mk (X := fun q => q = a) (D := D) (c := 21) (n := c) (w := 2)).tr (DX.set rfl)
      exact q1.le (by omega) (by omega)
    · intro q j hq hx
      have hx : q ≠ a := hx
      show cpI (upr I (dZ D) 0) v (dZ D) 0 0 n q j = _
      unfold cpI
      rw [if_neg (by omega), upr_ne (by omega)]
    · refine ⟨⟨a1, Nat.lt_succ_of_lt a2, (up1_ne (by omega)).trans a3, up2_eq, ?_, ?_⟩, ⟨hz, Nat.lt_succ_self _, by omega, up1_eq, up1_eq⟩, by omega, by omega, l3, fun j hj => ?_, l5⟩
      · show cpI (upr I (dZ D) 0) v (dZ D) 0 0 n a 1 = _
        unfold cpI
        rw [if_neg (by omega), upr_ne (by omega)]
        exact a5
      · show cpI (upr I (dZ D) 0) v (dZ D) 0 0 n a 3 = _
        unfold cpI
        rw [if_neg (by omega), upr_ne (by omega)]
        exact a6
      · show cpI (upr I (dZ D) 0) v (dZ D) 0 0 n (dZ D) j = _
        unfold cpI
        rw [if_pos ⟨rfl, by omega, by omega⟩, upr_ne (by omega), Nat.sub_zero, Nat.zero_add]
        exact l4 j hj
end
