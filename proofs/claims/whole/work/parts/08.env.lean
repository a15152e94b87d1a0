/-! What ties the pure memory to the machine's heap. -/
abbrev CX : Type := Nat × va_G × (Nat → ClassId) × (Nat → Nat) × Nat × (Nat → Int32)
/-- where the new cells begin; the classes; the array classes; the old cells' addresses; the script -/
abbrev cxB (Γ : CX) : Nat := Γ.1
abbrev cxD (Γ : CX) : va_G := Γ.2.1
abbrev cxC (Γ : CX) : Nat → ClassId := Γ.2.2.1
abbrev cxA (Γ : CX) : Nat → Nat := Γ.2.2.2.1
abbrev cxL (Γ : CX) : Nat := Γ.2.2.2.2.1
abbrev cxX (Γ : CX) : Nat → Int32 := Γ.2.2.2.2.2
def adF (Γ : CX) (a : Nat) : Nat := if a < 45 then cxA Γ a else cxB Γ + (a - 45)
def tvF (Γ : CX) (v : PV) : Value := match v with
  | .inl x => .int x
  | .inr (.inl r) => va_rf (r.map (adF Γ))
  | .inr (.inr (.inl z)) => .long z
  | .inr (.inr (.inr _)) => .null
def tysL (cs : Nat → ClassId) : List (ClassId × FieldType) := [(cs 0, .int), (cs 1, .byte), (cs 2, .object (cNm 4)), (cs 3, .object (cNm 2)), (cs 4, .object (cNm 7)), (cs 5, .object (cNm 6))]
def AF (Γ : CX) : Nat → Prop := fun q => cxB Γ ≤ q
/-- the texts of the String constants, by their places -/
def strL : List (List Int32) := [
  [97, 98, 115],
  [97, 98, 115],
  [111, 107, 104, 112, 118],
  [111, 112, 101, 110, 32, 112, 117, 116, 32, 116, 97, 107, 101, 32, 104, 111, 108, 100, 32, 102, 114, 101, 101, 32, 112, 114, 105, 99, 101, 32, 115, 101, 110, 100, 32, 99, 108, 111, 115, 101],
  [60, 61, 62],
  [43, 45],
  [42, 47, 37],
  [116, 111],
  [111, 112, 101, 110, 101, 100, 32, 112, 117, 116, 32, 116, 97, 107, 101, 110, 32, 104, 101, 108, 100, 32, 102, 114, 101, 101, 100, 32, 112, 114, 105, 99, 101, 100, 32, 115, 101, 110, 116, 32, 103, 111, 116, 32, 99, 108, 111, 115, 101, 100],
  [97, 98, 115],
  [111, 112, 101, 110, 101, 100, 32, 112, 117, 116, 32, 116, 97, 107, 101, 110, 32, 104, 101, 108, 100, 32, 102, 114, 101, 101, 100, 32, 112, 114, 105, 99, 101, 100, 32, 115, 101, 110, 116, 32, 103, 111, 116, 32, 99, 108, 111, 115, 101, 100],
  [115, 117, 109, 32, 99, 111, 117, 110, 116, 32, 109, 111, 115, 116, 32, 108, 101, 97, 115, 116, 32, 102, 105, 114, 115, 116, 32, 108, 97, 115, 116],
  [111, 102],
  [111, 112, 101, 110, 101, 100, 32, 112, 117, 116, 32, 116, 97, 107, 101, 110, 32, 104, 101, 108, 100, 32, 102, 114, 101, 101, 100, 32, 112, 114, 105, 99, 101, 100, 32, 115, 101, 110, 116, 32, 103, 111, 116, 32, 99, 108, 111, 115, 101, 100, 32, 97, 108, 108],
  [111, 112, 101, 110, 101, 100, 32, 112, 117, 116, 32, 116, 97, 107, 101, 110, 32, 104, 101, 108, 100, 32, 102, 114, 101, 101, 100, 32, 112, 114, 105, 99, 101, 100, 32, 115, 101, 110, 116, 32, 103, 111, 116, 32, 99, 108, 111, 115, 101, 100],
  [98, 121],
  [115, 116, 114, 101, 97, 109, 32, 107, 105, 110, 100, 32, 110, 111, 110, 101],
  [105, 102],
  [111, 110],
  [105, 102, 32, 100, 111],
  [100, 111],
  [111, 107, 104, 112, 118]]
def wSt (w : Cond) : Bool := (w.onTables && w.keepsH) || (match w with
  | .arrayClass _ => true
  | _ => false)
def EO (Γ : CX) (U : State) : Prop := (∀ w ∈ lw_tbl, wSt w = true → ∀ a : Array Value, w.before a U = true) ∧ va_K (cxD Γ) vwCl (tysL (cxC Γ)) U ∧ (∀ t ∈ sTab, ∃ tx, vk_R (cNm t.1) t.2.1 tx (cxA Γ t.2.2) U)
  ∧ va_Nw (.castable "[I" "java/lang/Cloneable") U ∧ (∀ c ∈ [2, 4, 6, 7], va_AO (cNm c) U) ∧ ∃ c0 : ClassId, U.vm.findClass "[I" = some c0 ∧ c0 = cxC Γ 0
def strOK (Γ : CX) (U : State) (H : Heap) (j : Nat) : Prop := va_O "java/lang/String" (cxA Γ (2 * j + 1)) (AF Γ) U H ∧ va_OF "java/lang/String" "coder" "B" (.int 0) (cxA Γ (2 * j + 1)) (AF Γ) U H ∧ va_OF "java/lang/String" "value" "[B" (.ref (cxA Γ (2 * j + 2))) (cxA Γ (2 * j + 1)) (AF Γ) U H
  ∧ va_T .byte (cxA Γ (2 * j + 2)) ((strL.getD j []).length) (fun k => .int ((strL.getD j []).getD k 0)) (AF Γ) U H
def EH (Γ : CX) (U : State) (H : Heap) : Prop := (∀ j, j < 22 → strOK Γ U H j) ∧ va_Z "java/lang/String" "COMPACT_STRINGS" "Z" (.int 1) (AF Γ) U H ∧ va_X (cxA Γ 0) (cxL Γ) (cxX Γ) U H ∧ cxA Γ 0 < H.size ∧ ¬ AF Γ (cxA Γ 0)
  ∧ ∃ v : Value, va_Z "jdk/internal/util/Preconditions" "SIOOBE_FORMATTER" "Ljava/util/function/BiFunction;" v (AF Γ) U H ∧ v.category = 1
theorem EO.warm {Γ : CX} {s U : State} (hW : s.WarmedH U.vm) (h : EO Γ s) : EO Γ U := by
  obtain ⟨h1, h2, h3, h4, h5, c0, h6, h7⟩ := h
  refine ⟨fun w hw hs a => ?_, va_K.moved hW.alike h2, fun t ht => ?_, va_Nw.warmC hW h4, fun c hc => va_AO.moved hW.alike (h5 c hc), c0, by rw [hW.alike.findClass]; exact h6, h7⟩
  · have h0 := h1 w hw hs #[]
    unfold wSt at hs
    rw [Bool.or_eq_true] at hs
    rcases hs with hs | hs
    · rw [Bool.and_eq_true] at hs
      have := Cond.onTables_warmH (args := #[]) (args' := a) (T := U) hW hs.1 hs.2 h0
      rwa [State.setVm_self] at this
    · cases w <;> first | exact word_at hW (Or.inr ⟨_, rfl⟩) h0 | cases hs
  · obtain ⟨tx, h⟩ := h3 t ht
    exact ⟨tx, vk_R.warm hW h⟩
theorem EH.kept {Γ : CX} {s U : State} {H H1 : Heap} (h : EH Γ s H) (hvm : s.vm.Alike U.vm) (hz : H.size ≤ H1.size) (hq : ∀ a : Nat, a < H.size → ¬ AF Γ a → H1[a]? = H[a]?) : EH Γ U H1 := by
  obtain ⟨h1, h2, ⟨scr, g1, g2, g3⟩, h4, h5, v, h6, h7⟩ := h
  refine ⟨fun j hj => ?_, (va_Z.moved hvm h2).kept hq, ⟨scr, by rw [hq _ h4 h5]; exact g1, State.isArrayOf_alike hvm g2, g3⟩, Nat.lt_of_lt_of_le h4 hz, h5, v, (va_Z.moved hvm h6).kept hq, h7⟩
  obtain ⟨q1, q2, q3, q4⟩ := h1 j hj
  exact ⟨(q1.moved hvm).kept hq, (q2.moved hvm).kept hq, (q3.moved hvm).kept hq, (q4.moved hvm).kept hq⟩
def teF (Γ : CX) (M : PM) (a c k : Nat) : Value := match XF.2 c k with
  | 1 => va_rf ((pR M a k).map (adF Γ))
  | _ => .int (pI M a k)
def cellR (Γ : CX) (M : PM) (a : Nat) (H : Heap) : Prop :=
  (pKd M a < 13 ∧ t_OB (adF Γ a) ((cxD Γ).1 (pKd M a)) (nfL.getD (pKd M a) 0) ((cxD Γ).2 (pKd M a)) H (fun k => teF Γ M a (pKd M a) k)) ∨
  (pKd M a = 20 ∧ H[adF Γ a]? = some (arrV (cxC Γ 0) (pLn M a) (fun j => .int (pI M a j)))) ∨
  (22 ≤ pKd M a ∧ pKd M a < 26 ∧ H[adF Γ a]? = some (arrV (cxC Γ (pKd M a - 20)) (pLn M a) (fun j => va_rf ((pR M a j).map (adF Γ)))))
def oldR (Γ : CX) (M : PM) : Prop := pKd M 0 = 19 ∧ pLn M 0 = cxL Γ ∧ (∀ j, j < cxL Γ → pI M 0 j = cxX Γ j) ∧ ∀ j, j < 22 → pKd M (2 * j + 1) = 13 ∧ pR M (2 * j + 1) 0 = some (2 * j + 2) ∧ pI M (2 * j + 1) 1 = 0 ∧ pKd M (2 * j + 2) = 21 ∧ pLn M (2 * j + 2) = (strL.getD j []).length ∧ ∀ k, pI M (2 * j + 2) k = (strL.getD j []).getD k 0
def RelM (Γ : CX) (M : PM) (H : Heap) : Prop := 45 ≤ pSz M ∧ H.size = cxB Γ + (pSz M - 45) ∧ (∀ a, 45 ≤ a → a < pSz M → cellR Γ M a H) ∧ oldR Γ M ∧ ∀ a, pSz M ≤ a → pKd M a = 99
theorem oldK {Γ : CX} {M : PM} (h : oldR Γ M) {a : Nat} (ha : a < 45) : pKd M a = 19 ∨ pKd M a = 13 ∨ pKd M a = 21 := by
  obtain ⟨h0, -, -, h1⟩ := h
  rcases Nat.eq_zero_or_pos a with rfl | hp
  · exact Or.inl h0
  · rcases Nat.mod_two_eq_zero_or_one a with q | q
    · obtain ⟨j, hj⟩ : ∃ j, a = 2 * j + 2 := ⟨a / 2 - 1, by omega⟩
      subst hj
      exact Or.inr (Or.inr (h1 j (by omega)).2.2.2.1)
    · obtain ⟨j, hj⟩ : ∃ j, a = 2 * j + 1 := ⟨a / 2, by omega⟩
      subst hj
      exact Or.inr (Or.inl (h1 j (by omega)).1)
theorem RelM.new {Γ : CX} {M : PM} {H : Heap} (h : RelM Γ M H) {a : Nat} (h1 : pKd M a ≠ 19) (h2 : pKd M a ≠ 13) (h3 : pKd M a ≠ 21) (h4 : pKd M a ≠ 99) : 45 ≤ a ∧ a < pSz M := by
  refine ⟨Nat.not_lt.mp fun q => ?_, Nat.not_le.mp fun q => h4 (h.2.2.2.2 a q)⟩
  rcases oldK h.2.2.2.1 q with z | z | z
  · exact h1 z
  · exact h2 z
  · exact h3 z
theorem adF_new {Γ : CX} {a : Nat} (h : 45 ≤ a) : adF Γ a = cxB Γ + (a - 45) := by
  unfold adF
  rw [if_neg (Nat.not_lt.mpr h)]
theorem adF_ne {Γ : CX} {a b : Nat} (ha : 45 ≤ a) (hb : 45 ≤ b) (h : b ≠ a) : adF Γ b ≠ adF Γ a := by
  rw [adF_new ha, adF_new hb]
  omega
theorem adF_A {Γ : CX} {a : Nat} (ha : 45 ≤ a) : AF Γ (adF Γ a) := by
  rw [adF_new ha]
  exact Nat.le_add_right _ _
theorem cellR.congr {Γ : CX} {M M' : PM} {a : Nat} {H H1 : Heap} (h : cellR Γ M a H) (h1 : pKd M' a = pKd M a) (h2 : pLn M' a = pLn M a) (h3 : pI M' a = pI M a) (h4 : pR M' a = pR M a) (hq : H1[adF Γ a]? = H[adF Γ a]?) : cellR Γ M' a H1 := by
  have ht : ∀ c k, teF Γ M' a c k = teF Γ M a c k := fun c k => by unfold teF; rw [h3, h4]
  rcases h with ⟨q1, q2⟩ | ⟨q1, q2⟩ | ⟨q1, q2, q3⟩
  · refine Or.inl ⟨by rw [h1]; exact q1, ?_⟩
    rw [h1]
    exact (q2.kept hq).to (fun k _ => (ht _ _).symm)
  · exact Or.inr (Or.inl ⟨by rw [h1]; exact q1, by rw [hq, h2, h3]; exact q2⟩)
  · exact Or.inr (Or.inr ⟨by rw [h1]; exact q1, by rw [h1]; exact q2, by rw [hq, h1, h2, h4]; exact q3⟩)
theorem oldR.congr {Γ : CX} {M M' : PM} (h : oldR Γ M) (hq : ∀ a, a < 45 → pKd M' a = pKd M a ∧ pLn M' a = pLn M a ∧ pI M' a = pI M a ∧ pR M' a = pR M a) : oldR Γ M' := by
  obtain ⟨h0, h1, h2, h3⟩ := h
  have q0 := hq 0 (by omega)
  refine ⟨by rw [q0.1]; exact h0, by rw [q0.2.1]; exact h1, fun j hj => by rw [q0.2.2.1]; exact h2 j hj, fun j hj => ?_⟩
  have q1 := hq (2 * j + 1) (by omega)
  have q2 := hq (2 * j + 2) (by omega)
  obtain ⟨z1, z2, z3, z4, z5, z6⟩ := h3 j hj
  exact ⟨by rw [q1.1]; exact z1, by rw [q1.2.2.2]; exact z2, by rw [q1.2.2.1]; exact z3, by rw [q2.1]; exact z4, by rw [q2.2.1]; exact z5, fun k => by rw [q2.2.2.1]; exact z6 k⟩
/-- one cell was written -/
theorem RelM.upd {Γ : CX} {M M' : PM} {H H1 : Heap} (h : RelM Γ M H) {a : Nat} (ha : 45 ≤ a) (h0 : pSz M' = pSz M) (h1 : pKd M' = pKd M) (h2 : pLn M' = pLn M) (h3 : ∀ b, b ≠ a → pI M' b = pI M b) (h4 : ∀ b, b ≠ a → pR M' b = pR M b)
    (hc : cellR Γ M' a H1) (hz : H1.size = H.size) (hq : ∀ q, q ≠ adF Γ a → H1[q]? = H[q]?) : RelM Γ M' H1 := by
  obtain ⟨g1, g2, g3, g4, g5⟩ := h
  refine ⟨by rw [h0]; exact g1, by rw [hz, h0]; exact g2, fun b hb hl => ?_, g4.congr (fun b hb => ⟨by rw [h1], by rw [h2], h3 b (by omega), h4 b (by omega)⟩), fun b hb => by rw [h1]; exact g5 b (by rw [← h0]; exact hb)⟩
  by_cases e : b = a
  · subst e
    exact hc
  · exact (g3 b hb (by rw [← h0]; exact hl)).congr (by rw [h1]) (by rw [h2]) (h3 b e) (h4 b e) (hq _ (adF_ne ha hb e))
/-- one cell was made -/
theorem RelM.mk {Γ : CX} {M : PM} {H H1 : Heap} (h : RelM Γ M H) {c n : Nat} (hc : ∀ M' : PM, M' = mkN M c n → adF Γ (pSz M) = H.size → cellR Γ M' (pSz M) H1) (hz : H1.size = H.size + 1) (hq : ∀ q, q < H.size → H1[q]? = H[q]?) : RelM Γ (mkN M c n) H1 := by
  obtain ⟨g1, g2, g3, g4, g5⟩ := h
  have ead : adF Γ (pSz M) = H.size := by rw [adF_new g1, g2]
  have k0 : pSz (mkN M c n) = pSz M + 1 := rfl
  have k1 : ∀ b, b ≠ pSz M → pKd (mkN M c n) b = pKd M b ∧ pLn (mkN M c n) b = pLn M b ∧ pI (mkN M c n) b = pI M b ∧ pR (mkN M c n) b = pR M b := fun b hb => by
    refine ⟨?_, ?_, ?_, ?_⟩
    · show up1 _ _ _ b = _
      simp [up1, hb]
    · show up1 _ _ _ b = _
      simp [up1, hb]
    · show (fun k => upr _ _ _ b k) = _
      funext k
      simp [upr, hb]
    · show (fun k => upr _ _ _ b k) = _
      funext k
      simp [upr, hb]
  refine ⟨by rw [k0]; omega, by rw [hz, g2, k0]; omega, fun b hb hl => ?_, g4.congr (fun b hb => k1 b (by omega)), fun b hb => by rw [(k1 b (by rw [k0] at hb; omega)).1]; exact g5 b (by rw [k0] at hb; omega)⟩
  by_cases e : b = pSz M
  · subst e
    exact hc _ rfl ead
  · have hlt : b < pSz M := by rw [k0] at hl; omega
    obtain ⟨r1, r2, r3, r4⟩ := k1 b e
    refine (g3 b hb hlt).congr r1 r2 r3 r4 (hq _ ?_)
    rw [adF_new hb, g2]
    omega
/-- the classes' facts -/
def tyCd (t : FieldType) : Nat := match t with
  | .boolean => 2
  | .object _ => 1
  | .array _ => 1
  | .int => 0
  | _ => 9
def clF (Γ : CX) (s : State) (c : Nat) : Prop := ∃ (T : u_T) (N : Nat) (ty : Nat → FieldType), vwCl[c]? = some (cNm c, T, N) ∧ N = nfL.getD c 0 ∧ (∀ a : Array Value, ∀ w ∈ u_ws (cNm c) T N, w.before a s = true) ∧ (∀ k, k < N → parseFieldDescriptor (T k).2.2.1 = some (ty k)) ∧ (∀ a, a < N → ∀ b, b < N → a ≠ b → (T a).2.1 ≠ (T b).2.1)
  ∧ (∀ k, k < N → XF.2 c k = tyCd (ty k)) ∧ (∀ k, k < N → (T k).1 = cNm c ∧ (T k).2.1 = fNm c k ∧ (T k).2.2.1 = fDs c k ∧ (T k).2.2.2 = (fnL.getD c []).getD k true)
theorem u_wSt {C : String} {T : u_T} {N : Nat} {w : Cond} (h : w ∈ u_ws C T N) : wSt w = true := by
  obtain ⟨k, -, rfl⟩ := List.mem_map.mp h
  unfold u_lay
  split <;> rfl
theorem clF_all {Γ : CX} {s : State} (hE : EO Γ s) : ∀ c, c < 13 → clF Γ s c
  | 0, _ => ⟨TX0, 7, tyX0, rfl, rfl, fun a w hw => hE.1 w (w_lay0 w hw) (u_wSt hw) a, tyX0_ok, nmX0, by decide +kernel, by decide +kernel⟩
  | 1, _ => ⟨TX1, 1, tyX1, rfl, rfl, fun a w hw => hE.1 w (w_lay1 w hw) (u_wSt hw) a, tyX1_ok, nmX1, by decide +kernel, by decide +kernel⟩
  | 2, _ => ⟨TX2, 4, tyX2, rfl, rfl, fun a w hw => hE.1 w (w_lay2 w hw) (u_wSt hw) a, tyX2_ok, nmX2, by decide +kernel, by decide +kernel⟩
  | 3, _ => ⟨TX3, 5, tyX3, rfl, rfl, fun a w hw => hE.1 w (w_lay3 w hw) (u_wSt hw) a, tyX3_ok, nmX3, by decide +kernel, by decide +kernel⟩
  | 4, _ => ⟨TX4, 2, tyX4, rfl, rfl, fun a w hw => hE.1 w (w_lay4 w hw) (u_wSt hw) a, tyX4_ok, nmX4, by decide +kernel, by decide +kernel⟩
  | 5, _ => ⟨TX5, 5, tyX5, rfl, rfl, fun a w hw => hE.1 w (w_lay5 w hw) (u_wSt hw) a, tyX5_ok, nmX5, by decide +kernel, by decide +kernel⟩
  | 6, _ => ⟨TX6, 6, tyX6, rfl, rfl, fun a w hw => hE.1 w (w_lay6 w hw) (u_wSt hw) a, tyX6_ok, nmX6, by decide +kernel, by decide +kernel⟩
  | 7, _ => ⟨TX7, 7, tyX7, rfl, rfl, fun a w hw => hE.1 w (w_lay7 w hw) (u_wSt hw) a, tyX7_ok, nmX7, by decide +kernel, by decide +kernel⟩
  | 8, _ => ⟨TX8, 3, tyX8, rfl, rfl, fun a w hw => hE.1 w (w_lay8 w hw) (u_wSt hw) a, tyX8_ok, nmX8, by decide +kernel, by decide +kernel⟩
  | 9, _ => ⟨TX9, 15, tyX9, rfl, rfl, fun a w hw => hE.1 w (w_lay9 w hw) (u_wSt hw) a, tyX9_ok, nmX9, by decide +kernel, by decide +kernel⟩
  | 10, _ => ⟨TX10, 7, tyX10, rfl, rfl, fun a w hw => hE.1 w (w_lay10 w hw) (u_wSt hw) a, tyX10_ok, nmX10, by decide +kernel, by decide +kernel⟩
  | 11, _ => ⟨TX11, 5, tyX11, rfl, rfl, fun a w hw => hE.1 w (w_lay11 w hw) (u_wSt hw) a, tyX11_ok, nmX11, by decide +kernel, by decide +kernel⟩
  | 12, _ => ⟨TX12, 79, tyX12, rfl, rfl, fun a w hw => hE.1 w (w_lay12 w hw) (u_wSt hw) a, tyX12_ok, nmX12, by decide +kernel, by decide +kernel⟩
  | n + 13, h => absurd h (by omega)
