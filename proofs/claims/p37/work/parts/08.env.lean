/-! What ties the pure memory to the machine's heap. -/
abbrev CX : Type := Nat × va_G × (Nat → ClassId) × (Nat → Nat) × Nat × (Nat → Int32) × Nat
/-- where the new cells begin; the classes; the array classes; the old cells' addresses; the script; how many low places (from 45 on) are new cells' (45: none, 106: the class's) -/
abbrev cxB (Γ : CX) : Nat := Γ.1
abbrev cxD (Γ : CX) : va_G := Γ.2.1
abbrev cxC (Γ : CX) : Nat → ClassId := Γ.2.2.1
abbrev cxA (Γ : CX) : Nat → Nat := Γ.2.2.2.1
abbrev cxL (Γ : CX) : Nat := Γ.2.2.2.2.1
abbrev cxX (Γ : CX) : Nat → Int32 := Γ.2.2.2.2.2.1
abbrev cxG (Γ : CX) : Nat := Γ.2.2.2.2.2.2
abbrev cxN (Γ : CX) : Nat := cxB Γ + (cxG Γ - 45)
def adF (Γ : CX) (a : Nat) : Nat := if 159 ≤ a then cxN Γ + (a - 159) else if 45 ≤ a ∧ a < cxG Γ then cxB Γ + (a - 45) else cxA Γ a
/-- a place of a cell that was made since the law began -/
def nwP (Γ : CX) (a : Nat) : Prop := 159 ≤ a ∨ (45 ≤ a ∧ a < cxG Γ)
def tvF (Γ : CX) (v : PV) : Value := match v with
  | .inl x => .int x
  | .inr (.inl r) => va_rf (r.map (adF Γ))
  | .inr (.inr (.inl z)) => .long z
  | .inr (.inr (.inr _)) => .null
def tysL (cs : Nat → ClassId) : List (ClassId × FieldType) := [(cs 0, .int), (cs 1, .byte), (cs 2, .object (cNm 4)), (cs 3, .object (cNm 2)), (cs 4, .object (cNm 7)), (cs 5, .object (cNm 6)), (cs 6, .object (cNm 13)), (cs 7, .array .int)]
def AF (Γ : CX) : Nat → Prop := fun q => cxB Γ ≤ q
/-- the texts of the String constants, by their places -/
def strL : List (List Int32) := [
  [97, 98, 115],
  [97, 98, 115],
  [111, 107, 104, 112, 118],
  [111, 112, 101, 110, 32, 112, 117, 116, 32, 116, 97, 107, 101, 32, 104, 111, 108, 100, 32, 102, 114, 101, 101, 32, 112, 114, 105, 99, 101, 32, 115, 101, 110, 100, 32, 99, 108, 111, 115, 101],
  [60, 61, 62],
  [43, 45],
  [42, 47, 37],
  [116, 111],
  [111, 112, 101, 110, 101, 100, 32, 112, 117, 116, 32, 116, 97, 107, 101, 110, 32, 104, 101, 108, 100, 32, 102, 114, 101, 101, 100, 32, 112, 114, 105, 99, 101, 100, 32, 115, 101, 110, 116, 32, 103, 111, 116, 32, 99, 108, 111, 115, 101, 100],
  [97, 98, 115],
  [111, 112, 101, 110],
  [115, 117, 109, 32, 99, 111, 117, 110, 116, 32, 109, 111, 115, 116, 32, 108, 101, 97, 115, 116, 32, 102, 105, 114, 115, 116, 32, 108, 97, 115, 116],
  [111, 102],
  [111, 112, 101, 110, 101, 100, 32, 112, 117, 116, 32, 116, 97, 107, 101, 110, 32, 104, 101, 108, 100, 32, 102, 114, 101, 101, 100, 32, 112, 114, 105, 99, 101, 100, 32, 115, 101, 110, 116, 32, 103, 111, 116, 32, 99, 108, 111, 115, 101, 100, 32, 97, 108, 108],
  [111, 112, 101, 110, 101, 100, 32, 112, 117, 116, 32, 116, 97, 107, 101, 110, 32, 104, 101, 108, 100, 32, 102, 114, 101, 101, 100, 32, 112, 114, 105, 99, 101, 100, 32, 115, 101, 110, 116, 32, 103, 111, 116, 32, 99, 108, 111, 115, 101, 100],
  [98, 121],
  [115, 116, 114, 101, 97, 109, 32, 107, 105, 110, 100, 32, 110, 111, 110, 101],
  [105, 102],
  [111, 110],
  [105, 102, 32, 100, 111],
  [100, 111],
  [112, 117, 116],
  [116, 97, 107, 101],
  [104, 111, 108, 100],
  [102, 114, 101, 101],
  [112, 114, 105, 99, 101],
  [115, 101, 110, 100],
  [99, 108, 111, 115, 101],
  [32],
  [32, 116, 111, 32],
  [111, 112, 101, 110, 32, 55],
  [111, 112, 101, 110, 32, 53],
  [115, 117, 109, 32, 111, 102, 32, 112, 117, 116, 43, 103, 111, 116, 32, 98, 121, 32, 115, 116, 114, 101, 97, 109],
  [99, 111, 117, 110, 116, 32, 111, 102, 32, 97, 108, 108, 32, 98, 121, 32, 107, 105, 110, 100],
  [111, 110, 32, 103, 111, 116, 32, 105, 102, 32, 97, 62, 51, 32, 100, 111, 32, 112, 117, 116, 32, 40, 97, 47, 50, 41],
  [112, 117, 116, 58, 97, 43, 49, 44, 98],
  [103, 111, 116, 58, 97, 42, 50, 44, 98],
  [58],
  [59],
  [58, 112, 117, 116, 32, 50]]
/-- the place of the j-th String; its bytes stand behind it -/
def plS (j : Nat) : Nat := if j < 22 then 2 * j + 1 else 2 * j + 62
def nStr : Nat := 40
/-- the digits' rows -/
def digV (w k : Nat) : Int32 := Int32.ofNat (48 + (if w = 0 then k % 10 else k / 10))
def wSt (w : Cond) : Bool := (w.onTables && w.keepsH) || (match w with
  | .arrayClass _ => true
  | _ => false)
/-- the arrays of rows of ints -/
def va_AOA (ty : FieldType) (U : State) : Prop := (Cond.arrayOver (.array ty)).before #[] U = true
theorem va_AOA.use {ty : FieldType} {A : Array Value} {U : State} (h : va_AOA ty U) : (Cond.arrayOver (.array ty)).before A U = true := h
theorem va_AOA.moved {ty : FieldType} {u U : State} (hvm : u.vm.Alike U.vm) (h : va_AOA ty u) : va_AOA ty U := Jvm.Stand.arrayOver_alikeB hvm h
def EO (Γ : CX) (U : State) : Prop := (∀ w ∈ lw_tbl, wSt w = true → ∀ a : Array Value, w.before a U = true) ∧ va_K (cxD Γ) vwCl (tysL (cxC Γ)) U ∧ (∀ t ∈ sTab, ∃ tx, vk_R (cNm t.1) t.2.1 tx (cxA Γ t.2.2) U)
  ∧ va_Nw (.castable "[I" "java/lang/Cloneable") U ∧ (∀ c ∈ [2, 4, 6, 7, 13], va_AO (cNm c) U) ∧ (∃ c0 : ClassId, U.vm.findClass "[I" = some c0 ∧ c0 = cxC Γ 0) ∧ va_Nw (.castable "[B" "java/lang/Cloneable") U ∧ (∃ c0 : ClassId, U.vm.findClass "[B" = some c0 ∧ c0 = cxC Γ 1) ∧ va_AOA .int U ∧ (∃ c0 : ClassId, U.vm.findClass "[[I" = some c0 ∧ c0 = cxC Γ 7) ∧ ∀ y ∈ apYs, ∀ a : Array Value, (Cond.selects "java/lang/StringBuilder" (mNm y) (mNm y)).before a U = true
def strOK (Γ : CX) (U : State) (H : Heap) (j : Nat) : Prop := va_O "java/lang/String" (cxA Γ (plS j)) (AF Γ) U H ∧ va_OF "java/lang/String" "coder" "B" (.int 0) (cxA Γ (plS j)) (AF Γ) U H ∧ va_OF "java/lang/String" "value" "[B" (.ref (cxA Γ (plS j + 1))) (cxA Γ (plS j)) (AF Γ) U H
  ∧ va_T .byte (cxA Γ (plS j + 1)) ((strL.getD j []).length) (fun k => .int ((strL.getD j []).getD k 0)) (AF Γ) U H
def digOK (Γ : CX) (U : State) (H : Heap) (w : Nat) : Prop := va_Z (gsF (w + 1)).1 (gsF (w + 1)).2.1 (gsF (w + 1)).2.2 (.ref (cxA Γ (142 + w))) (AF Γ) U H ∧ va_T .byte (cxA Γ (142 + w)) 100 (fun k => .int (digV w k)) (AF Γ) U H
def EH (Γ : CX) (U : State) (H : Heap) : Prop := (∀ j, j < nStr → strOK Γ U H j) ∧ va_Z "java/lang/String" "COMPACT_STRINGS" "Z" (.int 1) (AF Γ) U H ∧ va_X (cxA Γ 0) (cxL Γ) (cxX Γ) U H ∧ cxA Γ 0 < H.size ∧ ¬ AF Γ (cxA Γ 0)
  ∧ (∃ v : Value, va_Z "jdk/internal/util/Preconditions" "SIOOBE_FORMATTER" "Ljava/util/function/BiFunction;" v (AF Γ) U H ∧ v.category = 1) ∧ ∀ w, w < 2 → digOK Γ U H w
theorem EO.warm {Γ : CX} {s U : State} (hW : s.WarmedH U.vm) (h : EO Γ s) : EO Γ U := by
  obtain ⟨h1, h2, h3, h4, h5, ⟨c0, h6, h7⟩, h8, ⟨c1, h9, h10⟩, h11, ⟨c2, h12, h13⟩, h14⟩ := h
  refine ⟨fun w hw hs a => ?_, va_K.moved hW.alike h2, fun t ht => ?_, va_Nw.warmC hW h4, fun c hc => va_AO.moved hW.alike (h5 c hc), ⟨c0, by rw [hW.alike.findClass]; exact h6, h7⟩, va_Nw.warmC hW h8, ⟨c1, by rw [hW.alike.findClass]; exact h9, h10⟩, va_AOA.moved hW.alike h11, ⟨c2, by rw [hW.alike.findClass]; exact h12, h13⟩, fun y hy a => ?_⟩
  · have h0 := h1 w hw hs #[]
    unfold wSt at hs
    rw [Bool.or_eq_true] at hs
    rcases hs with hs | hs
    · rw [Bool.and_eq_true] at hs
      have := Cond.onTables_warmH (args := #[]) (args' := a) (T := U) hW hs.1 hs.2 h0
      rwa [State.setVm_self] at this
    · cases w <;> first | exact word_at hW (Or.inr ⟨_, rfl⟩) h0 | cases hs
  · obtain ⟨tx, h⟩ := h3 t ht
    exact ⟨tx, vk_R.warm hW h⟩
  · have := Cond.onTables_warmH (args := #[]) (args' := a) (T := U) hW rfl rfl (h14 y hy #[])
    rwa [State.setVm_self] at this
theorem EH.kept {Γ : CX} {s U : State} {H H1 : Heap} (h : EH Γ s H) (hvm : s.vm.Alike U.vm) (hz : H.size ≤ H1.size) (hq : ∀ a : Nat, a < H.size → ¬ AF Γ a → H1[a]? = H[a]?) : EH Γ U H1 := by
  obtain ⟨h1, h2, ⟨scr, g1, g2, g3⟩, h4, h5, ⟨v, h6, h7⟩, h8⟩ := h
  refine ⟨fun j hj => ?_, (va_Z.moved hvm h2).kept hq, ⟨scr, by rw [hq _ h4 h5]; exact g1, State.isArrayOf_alike hvm g2, g3⟩, Nat.lt_of_lt_of_le h4 hz, h5, ⟨v, (va_Z.moved hvm h6).kept hq, h7⟩, fun w hw => ⟨(va_Z.moved hvm (h8 w hw).1).kept hq, ((h8 w hw).2.moved hvm).kept hq⟩⟩
  obtain ⟨q1, q2, q3, q4⟩ := h1 j hj
  exact ⟨(q1.moved hvm).kept hq, (q2.moved hvm).kept hq, (q3.moved hvm).kept hq, (q4.moved hvm).kept hq⟩
def teF (Γ : CX) (M : PM) (a c k : Nat) : Value := match XF.2 c k with
  | 1 => va_rf ((pR M a k).map (adF Γ))
  | _ => .int (pI M a k)
/-- a byte as an int -/
def bytP (x : Int32) : Prop := x.toInt8.toInt32 = x
def cellR (Γ : CX) (M : PM) (a : Nat) (H : Heap) : Prop :=
  (pKd M a < 14 ∧ t_OB (adF Γ a) ((cxD Γ).1 (pKd M a)) (nfL.getD (pKd M a) 0) ((cxD Γ).2 (pKd M a)) H (fun k => teF Γ M a (pKd M a) k)) ∨
  (pKd M a = 20 ∧ H[adF Γ a]? = some (arrV (cxC Γ 0) (pLn M a) (fun j => .int (pI M a j)))) ∨
  (22 ≤ pKd M a ∧ pKd M a < 28 ∧ H[adF Γ a]? = some (arrV (cxC Γ (pKd M a - 20)) (pLn M a) (fun j => va_rf ((pR M a j).map (adF Γ))))) ∨
  (pKd M a = 21 ∧ H[adF Γ a]? = some (arrV (cxC Γ 1) (pLn M a) (fun j => .int (pI M a j))) ∧ ∀ j, bytP (pI M a j))
def strR (M : PM) (j : Nat) : Prop := pKd M (plS j) = 13 ∧ pR M (plS j) 0 = some (plS j + 1) ∧ pI M (plS j) 1 = 0 ∧ pKd M (plS j + 1) = 21 ∧ pLn M (plS j + 1) = (strL.getD j []).length ∧ ∀ k, pI M (plS j + 1) k = (strL.getD j []).getD k 0
def digR (M : PM) (w : Nat) : Prop := pKd M (142 + w) = 21 ∧ pLn M (142 + w) = 100 ∧ ∀ k, k < 100 → pI M (142 + w) k = digV w k
def oldR (Γ : CX) (M : PM) : Prop := pKd M 0 = 19 ∧ pLn M 0 = cxL Γ ∧ (∀ j, j < cxL Γ → pI M 0 j = cxX Γ j) ∧ (∀ j, j < nStr → strR M j) ∧ (∀ w, w < 2 → digR M w) ∧ ∀ a, 144 ≤ a → a < 159 → pKd M a = 99
def RelM (Γ : CX) (M : PM) (H : Heap) : Prop := 159 ≤ pSz M ∧ H.size = cxN Γ + (pSz M - 159) ∧ (∀ a, nwP Γ a → a < pSz M → cellR Γ M a H) ∧ oldR Γ M ∧ (∀ a, pSz M ≤ a → pKd M a = 99) ∧ (∀ a, cxG Γ ≤ a → 45 ≤ a → a < 106 → pKd M a = 99) ∧ cxG Γ ≤ 106
/-- where an old cell lies -/
theorem old_cases {Γ : CX} {a : Nat} (ha : a < 159) (hn : ¬ nwP Γ a) (hG : cxG Γ ≤ 106) : a = 0 ∨ (∃ j, j < nStr ∧ (a = plS j ∨ a = plS j + 1)) ∨ (∃ w, w < 2 ∧ a = 142 + w) ∨ (144 ≤ a ∧ a < 159) ∨ (cxG Γ ≤ a ∧ 45 ≤ a ∧ a < 106) := by
  have hn' : ¬ (45 ≤ a ∧ a < cxG Γ) := fun q => hn (Or.inr q)
  by_cases h0 : a = 0
  · exact Or.inl h0
  by_cases h1 : a < 45
  · refine Or.inr (Or.inl ⟨(a - 1) / 2, ?_, ?_⟩)
    · show _ < 40
      omega
    · unfold plS
      rw [if_pos (by omega)]
      omega
  by_cases h2 : a < 106
  · exact Or.inr (Or.inr (Or.inr (Or.inr ⟨by omega, by omega, h2⟩)))
  by_cases h3 : a < 142
  · refine Or.inr (Or.inl ⟨(a - 62) / 2, ?_, ?_⟩)
    · show _ < 40
      omega
    · unfold plS
      rw [if_neg (by omega)]
      omega
  by_cases h4 : a < 144
  · exact Or.inr (Or.inr (Or.inl ⟨a - 142, by omega, by omega⟩))
  · exact Or.inr (Or.inr (Or.inr (Or.inl ⟨by omega, ha⟩)))
theorem plS_lt {j : Nat} (h : j < nStr) : plS j + 1 < 142 ∧ (plS j + 1 < 45 ∨ 106 ≤ plS j) := by
  have h' : j < 40 := h
  unfold plS
  split <;> omega
theorem nwP_no {Γ : CX} {a : Nat} (h : a < 45 ∨ 106 ≤ a) (h2 : a < 159) (hG : cxG Γ ≤ 106) : ¬ nwP Γ a := fun q => by
  unfold nwP at q
  omega
theorem adF_old {Γ : CX} {a : Nat} (h : a < 45 ∨ 106 ≤ a) (h2 : a < 159) (hG : cxG Γ ≤ 106) : adF Γ a = cxA Γ a := by
  unfold adF
  rw [if_neg (by omega), if_neg (by omega)]
/-- what is of a kind that no old cell is of is new -/
theorem RelM.new {Γ : CX} {M : PM} {H : Heap} (h : RelM Γ M H) {a : Nat} (h1 : pKd M a ≠ 19) (h2 : pKd M a ≠ 13) (h3 : pKd M a ≠ 21) (h4 : pKd M a ≠ 99) : nwP Γ a ∧ a < pSz M := by
  obtain ⟨g1, g2, g3, g4, g5, g6, g7⟩ := h
  have hlt : a < pSz M := Nat.not_le.mp fun q => h4 (g5 a q)
  refine ⟨Classical.not_not.mp fun hn => ?_, hlt⟩
  have ha : a < 159 := Nat.not_le.mp fun q => hn (Or.inl q)
  obtain ⟨o1, o2, o3, o4, o5, o6⟩ := g4
  rcases old_cases ha hn g7 with rfl | ⟨j, hj, rfl | rfl⟩ | ⟨w, hw, rfl⟩ | ⟨q1, q2⟩ | ⟨q1, q2, q3⟩
  · exact h1 o1
  · exact h2 (o4 j hj).1
  · exact h3 (o4 j hj).2.2.2.1
  · exact h3 (o5 w hw).1
  · exact h4 (o6 a q1 q2)
  · exact h4 (g6 a q1 q2 q3)
/-- a String is new, or one of the constants -/
theorem RelM.str {Γ : CX} {M : PM} {H : Heap} (h : RelM Γ M H) {a : Nat} (h1 : pKd M a = 13) : (nwP Γ a ∧ a < pSz M) ∨ ∃ j, j < nStr ∧ a = plS j := by
  obtain ⟨g1, g2, g3, g4, g5, g6, g7⟩ := h
  have hlt : a < pSz M := Nat.not_le.mp fun q => by rw [g5 a q] at h1; cases h1
  by_cases hn : nwP Γ a
  · exact Or.inl ⟨hn, hlt⟩
  have ha : a < 159 := Nat.not_le.mp fun q => hn (Or.inl q)
  obtain ⟨o1, o2, o3, o4, o5, o6⟩ := g4
  rcases old_cases ha hn g7 with rfl | ⟨j, hj, rfl | rfl⟩ | ⟨w, hw, rfl⟩ | ⟨q1, q2⟩ | ⟨q1, q2, q3⟩
  · rw [o1] at h1; cases h1
  · exact Or.inr ⟨j, hj, rfl⟩
  · rw [(o4 j hj).2.2.2.1] at h1; cases h1
  · rw [(o5 w hw).1] at h1; cases h1
  · rw [o6 a q1 q2] at h1; cases h1
  · rw [g6 a q1 q2 q3] at h1; cases h1
/-- a row of bytes is new, or a constant's, or one of the digits' -/
theorem RelM.byt {Γ : CX} {M : PM} {H : Heap} (h : RelM Γ M H) {a : Nat} (h1 : pKd M a = 21) : (nwP Γ a ∧ a < pSz M) ∨ (∃ j, j < nStr ∧ a = plS j + 1) ∨ ∃ w, w < 2 ∧ a = 142 + w := by
  obtain ⟨g1, g2, g3, g4, g5, g6, g7⟩ := h
  have hlt : a < pSz M := Nat.not_le.mp fun q => by rw [g5 a q] at h1; cases h1
  by_cases hn : nwP Γ a
  · exact Or.inl ⟨hn, hlt⟩
  have ha : a < 159 := Nat.not_le.mp fun q => hn (Or.inl q)
  obtain ⟨o1, o2, o3, o4, o5, o6⟩ := g4
  rcases old_cases ha hn g7 with rfl | ⟨j, hj, rfl | rfl⟩ | ⟨w, hw, rfl⟩ | ⟨q1, q2⟩ | ⟨q1, q2, q3⟩
  · rw [o1] at h1; cases h1
  · rw [(o4 j hj).1] at h1; cases h1
  · exact Or.inr (Or.inl ⟨j, hj, rfl⟩)
  · exact Or.inr (Or.inr ⟨w, hw, rfl⟩)
  · rw [o6 a q1 q2] at h1; cases h1
  · rw [g6 a q1 q2 q3] at h1; cases h1
theorem RelM.scr {Γ : CX} {M : PM} {H : Heap} (h : RelM Γ M H) {a : Nat} (h1 : pKd M a = 19) : a = 0 := by
  obtain ⟨g1, g2, g3, g4, g5, g6, g7⟩ := h
  have hlt : a < pSz M := Nat.not_le.mp fun q => by rw [g5 a q] at h1; cases h1
  by_cases hn : nwP Γ a
  · rcases g3 a hn hlt with ⟨q, -⟩ | ⟨q, -⟩ | ⟨q, q2, -⟩ | ⟨q, -⟩ <;> omega
  have ha : a < 159 := Nat.not_le.mp fun q => hn (Or.inl q)
  obtain ⟨o1, o2, o3, o4, o5, o6⟩ := g4
  rcases old_cases ha hn g7 with rfl | ⟨j, hj, rfl | rfl⟩ | ⟨w, hw, rfl⟩ | ⟨q1, q2⟩ | ⟨q1, q2, q3⟩
  · rfl
  · rw [(o4 j hj).1] at h1; cases h1
  · rw [(o4 j hj).2.2.2.1] at h1; cases h1
  · rw [(o5 w hw).1] at h1; cases h1
  · rw [o6 a q1 q2] at h1; cases h1
  · rw [g6 a q1 q2 q3] at h1; cases h1
theorem adF_159 {Γ : CX} {a : Nat} (h : 159 ≤ a) : adF Γ a = cxN Γ + (a - 159) := by
  unfold adF
  rw [if_pos h]
theorem adF_ne {Γ : CX} {a b : Nat} (ha : nwP Γ a) (hb : nwP Γ b) (h : b ≠ a) : adF Γ b ≠ adF Γ a := by
  unfold nwP at ha hb
  unfold adF
  show (if 159 ≤ b then cxB Γ + (cxG Γ - 45) + (b - 159) else _) ≠ (if 159 ≤ a then cxB Γ + (cxG Γ - 45) + (a - 159) else _)
  generalize cxA Γ a = u
  generalize cxA Γ b = v
  split <;> split <;> (try split) <;> (try split) <;> omega
theorem adF_A {Γ : CX} {a : Nat} (ha : nwP Γ a) : AF Γ (adF Γ a) := by
  unfold nwP at ha
  unfold adF AF
  show cxB Γ ≤ (if 159 ≤ a then cxB Γ + (cxG Γ - 45) + (a - 159) else _)
  split
  · omega
  · rw [if_pos (by omega)]
    omega
/-- the new cells lie below the heap's end -/
theorem adF_lt {Γ : CX} {M : PM} {H : Heap} (h : RelM Γ M H) {a : Nat} (ha : nwP Γ a) (hl : a < pSz M) : adF Γ a < H.size := by
  obtain ⟨g1, g2, -⟩ := h
  have g2' : H.size = cxB Γ + (cxG Γ - 45) + (pSz M - 159) := g2
  unfold nwP at ha
  unfold adF
  show (if 159 ≤ a then cxB Γ + (cxG Γ - 45) + (a - 159) else _) < _
  split
  · omega
  · rw [if_pos (by omega)]
    omega
theorem cellR.congr {Γ : CX} {M M' : PM} {a : Nat} {H H1 : Heap} (h : cellR Γ M a H) (h1 : pKd M' a = pKd M a) (h2 : pLn M' a = pLn M a) (h3 : pI M' a = pI M a) (h4 : pR M' a = pR M a) (hq : H1[adF Γ a]? = H[adF Γ a]?) : cellR Γ M' a H1 := by
  have ht : ∀ c k, teF Γ M' a c k = teF Γ M a c k := fun c k => by unfold teF; rw [h3, h4]
  rcases h with ⟨q1, q2⟩ | ⟨q1, q2⟩ | ⟨q1, q2, q3⟩ | ⟨q1, q2, q3⟩
  · refine Or.inl ⟨by rw [h1]; exact q1, ?_⟩
    rw [h1]
    exact (q2.kept hq).to (fun k _ => (ht _ _).symm)
  · exact Or.inr (Or.inl ⟨by rw [h1]; exact q1, by rw [hq, h2, h3]; exact q2⟩)
  · exact Or.inr (Or.inr (Or.inl ⟨by rw [h1]; exact q1, by rw [h1]; exact q2, by rw [hq, h1, h2, h4]; exact q3⟩))
  · exact Or.inr (Or.inr (Or.inr ⟨by rw [h1]; exact q1, by rw [hq, h2, h3]; exact q2, by rw [h3]; exact q3⟩))
theorem oldR.congr {Γ : CX} {M M' : PM} (h : oldR Γ M) (hq : ∀ a, (a < 45 ∨ (106 ≤ a ∧ a < 159)) → pKd M' a = pKd M a ∧ pLn M' a = pLn M a ∧ pI M' a = pI M a ∧ pR M' a = pR M a) : oldR Γ M' := by
  obtain ⟨h0, h1, h2, h3, h4, h5⟩ := h
  have q0 := hq 0 (by omega)
  refine ⟨by rw [q0.1]; exact h0, by rw [q0.2.1]; exact h1, fun j hj => by rw [q0.2.2.1]; exact h2 j hj, fun j hj => ?_, fun w hw => ?_, fun a g1 g2 => by rw [(hq a (Or.inr ⟨by omega, g2⟩)).1]; exact h5 a g1 g2⟩
  · have hl := plS_lt hj
    have q1 := hq (plS j) (by omega)
    have q2 := hq (plS j + 1) (by omega)
    obtain ⟨z1, z2, z3, z4, z5, z6⟩ := h3 j hj
    exact ⟨by rw [q1.1]; exact z1, by rw [q1.2.2.2]; exact z2, by rw [q1.2.2.1]; exact z3, by rw [q2.1]; exact z4, by rw [q2.2.1]; exact z5, fun k => by rw [q2.2.2.1]; exact z6 k⟩
  · have q1 := hq (142 + w) (by omega)
    obtain ⟨z1, z2, z3⟩ := h4 w hw
    exact ⟨by rw [q1.1]; exact z1, by rw [q1.2.1]; exact z2, fun k hk => by rw [q1.2.2.1]; exact z3 k hk⟩
/-- one cell was written -/
theorem RelM.upd {Γ : CX} {M M' : PM} {H H1 : Heap} (h : RelM Γ M H) {a : Nat} (ha : nwP Γ a) (h0 : pSz M' = pSz M) (h1 : pKd M' = pKd M) (h2 : pLn M' = pLn M) (h3 : ∀ b, b ≠ a → pI M' b = pI M b) (h4 : ∀ b, b ≠ a → pR M' b = pR M b)
    (hc : cellR Γ M' a H1) (hz : H1.size = H.size) (hq : ∀ q, q ≠ adF Γ a → H1[q]? = H[q]?) : RelM Γ M' H1 := by
  obtain ⟨g1, g2, g3, g4, g5, g6, g7⟩ := h
  have hne : ∀ b, (b < 45 ∨ (106 ≤ b ∧ b < 159)) → b ≠ a := fun b hb e => by
    unfold nwP at ha
    omega
  refine ⟨by rw [h0]; exact g1, by rw [hz, h0]; exact g2, fun b hb hl => ?_, g4.congr (fun b hb => ⟨by rw [h1], by rw [h2], h3 b (hne b hb), h4 b (hne b hb)⟩), fun b hb => by rw [h1]; exact g5 b (by rw [← h0]; exact hb), fun b => by rw [h1]; exact g6 b, g7⟩
  by_cases e : b = a
  · subst e
    exact hc
  · exact (g3 b hb (by rw [← h0]; exact hl)).congr (by rw [h1]) (by rw [h2]) (h3 b e) (h4 b e) (hq _ (adF_ne ha hb e))
/-- some cells were made -/
theorem RelM.mks {Γ : CX} {M M' : PM} {H H1 : Heap} (h : RelM Γ M H) {n : Nat} (h0 : pSz M' = pSz M + n) (hk : ∀ b, ¬ (pSz M ≤ b ∧ b < pSz M + n) → pKd M' b = pKd M b ∧ pLn M' b = pLn M b ∧ pI M' b = pI M b ∧ pR M' b = pR M b)
    (hc : ∀ i, i < n → adF Γ (pSz M + i) = H.size + i → cellR Γ M' (pSz M + i) H1) (hz : H1.size = H.size + n) (hq : ∀ q, q < H.size → H1[q]? = H[q]?) : RelM Γ M' H1 := by
  have hall := h
  obtain ⟨g1, g2, g3, g4, g5, g6, g7⟩ := h
  have g2' : H.size = cxB Γ + (cxG Γ - 45) + (pSz M - 159) := g2
  refine ⟨by omega, ?_, fun b hb hl => ?_, g4.congr (fun b hb => hk b (by omega)), fun b hb => by rw [(hk b (by omega)).1]; exact g5 b (by omega), fun b q1 q2 q3 => by rw [(hk b (by omega)).1]; exact g6 b q1 q2 q3, g7⟩
  · show H1.size = cxB Γ + (cxG Γ - 45) + (pSz M' - 159)
    omega
  by_cases e : pSz M ≤ b
  · have := hc (b - pSz M) (by omega) (by rw [adF_159 (by omega)]; show cxB Γ + (cxG Γ - 45) + _ = _; omega)
    rw [show pSz M + (b - pSz M) = b by omega] at this
    exact this
  · obtain ⟨r1, r2, r3, r4⟩ := hk b (by omega)
    exact (g3 b hb (by omega)).congr r1 r2 r3 r4 (hq _ (adF_lt hall hb (by omega)))
/-- one cell was made -/
theorem RelM.mk {Γ : CX} {M : PM} {H H1 : Heap} (h : RelM Γ M H) {c n : Nat} (hc : ∀ M' : PM, M' = mkN M c n → adF Γ (pSz M) = H.size → cellR Γ M' (pSz M) H1) (hz : H1.size = H.size + 1) (hq : ∀ q, q < H.size → H1[q]? = H[q]?) : RelM Γ (mkN M c n) H1 := by
  refine h.mks (n := 1) rfl (fun b hb => ?_) (fun i hi e => ?_) hz hq
  · have hb : b ≠ pSz M := by omega
    refine ⟨?_, ?_, ?_, ?_⟩
    · show up1 _ _ _ b = _
      simp [up1, hb]
    · show up1 _ _ _ b = _
      simp [up1, hb]
    · show (fun k => upr _ _ _ b k) = _
      funext k
      simp [upr, hb]
    · show (fun k => upr _ _ _ b k) = _
      funext k
      simp [upr, hb]
  · obtain rfl : i = 0 := by omega
    exact hc _ rfl e
theorem RelM.end_ad {Γ : CX} {M : PM} {H : Heap} (h : RelM Γ M H) : adF Γ (pSz M) = H.size := by
  rw [adF_159 h.1, h.2.1]
/-- the classes' facts -/
def tyCd (t : FieldType) : Nat := match t with
  | .boolean => 2
  | .object _ => 1
  | .array _ => 1
  | .int => 0
  | .byte => 3
  | _ => 9
def clF (Γ : CX) (s : State) (c : Nat) : Prop := ∃ (T : u_T) (N : Nat) (ty : Nat → FieldType), vwCl[c]? = some (cNm c, T, N) ∧ N = nfL.getD c 0 ∧ (∀ a : Array Value, ∀ w ∈ u_ws (cNm c) T N, w.before a s = true) ∧ (∀ k, k < N → parseFieldDescriptor (T k).2.2.1 = some (ty k)) ∧ (∀ a, a < N → ∀ b, b < N → a ≠ b → (T a).2.1 ≠ (T b).2.1)
  ∧ (∀ k, k < N → XF.2 c k = tyCd (ty k)) ∧ (∀ k, k < N → (T k).1 = fCl c k ∧ (T k).2.1 = fNm c k ∧ (T k).2.2.1 = fDs c k ∧ (T k).2.2.2 = (fnL.getD c []).getD k true)
theorem u_wSt {C : String} {T : u_T} {N : Nat} {w : Cond} (h : w ∈ u_ws C T N) : wSt w = true := by
  obtain ⟨k, -, rfl⟩ := List.mem_map.mp h
  unfold u_lay
  split <;> rfl
theorem clF_all {Γ : CX} {s : State} (hE : EO Γ s) : ∀ c, c < 14 → clF Γ s c
  | 0, _ => ⟨TX0, 7, tyX0, rfl, rfl, fun a w hw => hE.1 w (w_lay0 w hw) (u_wSt hw) a, tyX0_ok, nmX0, by decide +kernel, by decide +kernel⟩
  | 1, _ => ⟨TX1, 1, tyX1, rfl, rfl, fun a w hw => hE.1 w (w_lay1 w hw) (u_wSt hw) a, tyX1_ok, nmX1, by decide +kernel, by decide +kernel⟩
  | 2, _ => ⟨TX2, 4, tyX2, rfl, rfl, fun a w hw => hE.1 w (w_lay2 w hw) (u_wSt hw) a, tyX2_ok, nmX2, by decide +kernel, by decide +kernel⟩
  | 3, _ => ⟨TX3, 5, tyX3, rfl, rfl, fun a w hw => hE.1 w (w_lay3 w hw) (u_wSt hw) a, tyX3_ok, nmX3, by decide +kernel, by decide +kernel⟩
  | 4, _ => ⟨TX4, 2, tyX4, rfl, rfl, fun a w hw => hE.1 w (w_lay4 w hw) (u_wSt hw) a, tyX4_ok, nmX4, by decide +kernel, by decide +kernel⟩
  | 5, _ => ⟨TX5, 5, tyX5, rfl, rfl, fun a w hw => hE.1 w (w_lay5 w hw) (u_wSt hw) a, tyX5_ok, nmX5, by decide +kernel, by decide +kernel⟩
  | 6, _ => ⟨TX6, 6, tyX6, rfl, rfl, fun a w hw => hE.1 w (w_lay6 w hw) (u_wSt hw) a, tyX6_ok, nmX6, by decide +kernel, by decide +kernel⟩
  | 7, _ => ⟨TX7, 7, tyX7, rfl, rfl, fun a w hw => hE.1 w (w_lay7 w hw) (u_wSt hw) a, tyX7_ok, nmX7, by decide +kernel, by decide +kernel⟩
  | 8, _ => ⟨TX8, 3, tyX8, rfl, rfl, fun a w hw => hE.1 w (w_lay8 w hw) (u_wSt hw) a, tyX8_ok, nmX8, by decide +kernel, by decide +kernel⟩
  | 9, _ => ⟨TX9, 15, tyX9, rfl, rfl, fun a w hw => hE.1 w (w_lay9 w hw) (u_wSt hw) a, tyX9_ok, nmX9, by decide +kernel, by decide +kernel⟩
  | 10, _ => ⟨TX10, 7, tyX10, rfl, rfl, fun a w hw => hE.1 w (w_lay10 w hw) (u_wSt hw) a, tyX10_ok, nmX10, by decide +kernel, by decide +kernel⟩
  | 11, _ => ⟨TX11, 5, tyX11, rfl, rfl, fun a w hw => hE.1 w (w_lay11 w hw) (u_wSt hw) a, tyX11_ok, nmX11, by decide +kernel, by decide +kernel⟩
  | 12, _ => ⟨TJ4, 4, tyJ4, rfl, rfl, fun a w hw => hE.1 w (w_lay12 w hw) (u_wSt hw) a, tyJ4_ok, nmJ4, by decide +kernel, by decide +kernel⟩
  | 13, _ => ⟨TJ0, 4, tyJ0, rfl, rfl, fun a w hw => hE.1 w (w_lay13 w hw) (u_wSt hw) a, tyJ0_ok, nmJ0, by decide +kernel, by decide +kernel⟩
  | n + 14, h => absurd h (by omega)
