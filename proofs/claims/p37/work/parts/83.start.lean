/-! From the law's entry: the classes, the arrays, the Strings. -/
def clK (s : State) (c : Nat) (q : ClassId × (Nat → Nat)) : Prop := ∀ v : vw_C, vwCl[c]? = some v → u_Kn s v.1 v.2.1 v.2.2 q.1 q.2
theorem clK_all {s : State} {args : Array Value} (hts : ∀ w ∈ lw_tbl, w.before args s = true) : ∀ c, ∃ q, clK s c q := by
  intro c
  have go : ∀ (C : String) (T : u_T) (N n : Nat), vwCl[c]? = some (C, T, N) → (∀ w ∈ u_ws C T N, w ∈ lw_tbl) → Cond.instantiable C n ∈ lw_tbl → ∃ q, clK s c q := fun C T N n h1 h2 h3 => by
    obtain ⟨cC, iS, h⟩ := u_known hts h2 (hts _ h3)
    exact ⟨(cC, iS), fun v hv => by rw [h1] at hv; cases hv; exact h⟩
  match c with
  | 0 => exact go _ _ _ _ rfl w_lay0 (w_new (c := 0) (by decide))
  | 1 => exact go _ _ _ _ rfl w_lay1 (w_new (c := 1) (by decide))
  | 2 => exact go _ _ _ _ rfl w_lay2 (w_new (c := 2) (by decide))
  | 3 => exact go _ _ _ _ rfl w_lay3 (w_new (c := 3) (by decide))
  | 4 => exact go _ _ _ _ rfl w_lay4 (w_new (c := 4) (by decide))
  | 5 => exact go _ _ _ _ rfl w_lay5 (w_new (c := 5) (by decide))
  | 6 => exact go _ _ _ _ rfl w_lay6 (w_new (c := 6) (by decide))
  | 7 => exact go _ _ _ _ rfl w_lay7 (w_new (c := 7) (by decide))
  | 8 => exact go _ _ _ _ rfl w_lay8 (w_new (c := 8) (by decide))
  | 9 => exact go _ _ _ _ rfl w_lay9 (w_new (c := 9) (by decide))
  | 10 => exact go _ _ _ _ rfl w_lay10 (w_new (c := 10) (by decide))
  | 11 => exact go _ _ _ _ rfl w_lay11 (w_new (c := 11) (by decide))
  | 12 => exact go _ _ _ _ rfl w_lay12 (w_new (c := 12) (by decide))
  | 13 => exact go _ _ _ _ rfl w_lay13 (w_new (c := 13) (by decide))
  | k + 14 => exact ⟨(0, fun _ => 0), fun v hv => by simp [vwCl] at hv⟩
theorem arrC_ok {s : State} {args : Array Value} {ty : FieldType} (h : (Cond.arrayClass ty).before args s = true) : ∃ cA, ArrOfT s cA ty ∧ s.vm.findClass ("[" ++ ty.toString) = some cA := by
  obtain ⟨cA, kA, comp, h1, h2, h3⟩ := Cond.arrayClass_spec (args := args) (first := s) (o := none) (s := s) (idx := []) h
  exact ⟨cA, fun n z => ⟨(fun k h => by cases h), kA, h2, comp, h3⟩, h1⟩
theorem arrO_ok {s : State} {args : Array Value} {C : String} (h : (Cond.arrayOver (.object C)).before args s = true) : ∃ cA, ArrOfT s cA (.object C) ∧ va_RA s cA (.object C) := by
  obtain ⟨comp, cA, kA, f1, -, f2, f3, f4⟩ := Cond.arrayOver_spec (args := args) (first := s) (o := none) (s := s) (idx := []) h
  exact ⟨cA, fun N z => ⟨(fun k h => by cases h), kA, f2, comp, f3⟩, kA, comp, f2, f3, f1, f4⟩
theorem arrA_ok {s : State} {args : Array Value} {ty : FieldType} (h : (Cond.arrayOver (.array ty)).before args s = true) : ∃ cA, ArrOfT s cA (.array ty) ∧ s.vm.findClass ("[" ++ (FieldType.array ty).toString) = some cA := by
  obtain ⟨comp, cA, kA, f1, -, f2, f3, f4⟩ := Jvm.Stand.arrayOver_specB (args := args) (first := s) (o := none) (s := s) (idx := []) h
  exact ⟨cA, fun N z => ⟨(fun k h => by cases h), kA, f2, comp, f3⟩, f4⟩
theorem wd_any {s : State} {args a : Array Value} {w : Cond} (h : w.before args s = true) (hs : wSt w = true) : w.before a s = true := by
  have hW : s.WarmedH s.vm := State.WarmedH.refl s
  unfold wSt at hs
  rw [Bool.or_eq_true] at hs
  rcases hs with hs | hs
  · rw [Bool.and_eq_true] at hs
    have := Cond.onTables_warmH (args := args) (args' := a) (T := s) hW hs.1 hs.2 h
    rwa [State.setVm_self] at this
  · cases w <;> first | exact word_at (U := s) hW (Or.inr ⟨_, rfl⟩) h | cases hs
theorem str_all {s : State} {args : Array Value} {A : Nat → Prop} (hn : ∀ w ∈ nar, w.before args s = true) (hA : ∀ a : Nat, a < s.heap.size → ¬ A a) : ∃ ad : Nat → Nat × Nat, ∀ j, j < 40 → (tmS j).eval args s none [] s = some (.ref (ad j).1) ∧ va_O "java/lang/String" (ad j).1 A s s.heap ∧
    va_OF "java/lang/String" "coder" "B" (.int 0) (ad j).1 A s s.heap ∧ va_OF "java/lang/String" "value" "[B" (.ref (ad j).2) (ad j).1 A s s.heap ∧ va_T .byte (ad j).2 (sL j).length (fun k => .int ((sL j).getD k 0)) A s s.heap := by
  have h0 : ∀ j : Nat, ∃ q : Nat × Nat, j < 40 → (tmS j).eval args s none [] s = some (.ref q.1) ∧ va_O "java/lang/String" q.1 A s s.heap ∧ va_OF "java/lang/String" "coder" "B" (.int 0) q.1 A s s.heap ∧ va_OF "java/lang/String" "value" "[B" (.ref q.2) q.1 A s s.heap ∧ va_T .byte q.2 (sL j).length (fun k => .int ((sL j).getD k 0)) A s s.heap := by
    intro j
    by_cases hj : j < 40
    · have hw : ∀ w ∈ strW j, w.before args s = true := fun w h => hn w (strW_in hj w h)
      obtain ⟨adK, adV, hS, hE⟩ := vk_Sof (args := args) (s := s) (N := 1) (tm := fun _ => tmS j) (len := [(sL j).length]) (byt := [sL j]) (A := A)
        (fun i hi => by
          obtain rfl : i = 0 := by omega
          have := (strH j hj).2.2.2.2.2.1
          show (sL j).length < _
          omega)
        (fun i _ => hw _ (by unfold strW; exact List.mem_cons_self))
        (fun i _ => hw _ (by unfold strW; exact List.mem_cons_of_mem _ List.mem_cons_self))
        (fun i _ => hw _ (by unfold strW; exact List.mem_cons_of_mem _ (List.mem_cons_of_mem _ List.mem_cons_self)))
        (fun i hi => by
          obtain rfl : i = 0 := by omega
          exact hw _ (by unfold strW; exact List.mem_cons_of_mem _ (List.mem_cons_of_mem _ (List.mem_cons_of_mem _ List.mem_cons_self))))
        (fun i hi k hk => by
          obtain rfl : i = 0 := by omega
          exact hw _ (by unfold strW; exact List.mem_cons_of_mem _ (List.mem_cons_of_mem _ (List.mem_cons_of_mem _ (List.mem_cons_of_mem _ (List.mem_map.mpr ⟨k, List.mem_range.mpr hk, rfl⟩))))))
        (fun i k hi hk hne => absurd (show i = k by omega) hne) hA
      exact ⟨(adK 0, adV 0), fun _ => ⟨hE 0 (by decide), hS.1 0 (by decide)⟩⟩
    · exact ⟨(0, 0), fun h => absurd h hj⟩
  obtain ⟨ad, had⟩ := Classical.axiomOfChoice h0
  exact ⟨ad, had⟩
theorem dig_all {s : State} {args : Array Value} {A : Nat → Prop} (hn : ∀ w ∈ nar, w.before args s = true) (hts : ∀ w ∈ lw_tbl, w.before args s = true) (hA : ∀ a : Nat, a < s.heap.size → ¬ A a) : ∃ dg : Nat → Nat, ∀ w, w < 2 → va_Z (gsF (w + 1)).1 (gsF (w + 1)).2.1 (gsF (w + 1)).2.2 (.ref (dg w)) A s s.heap ∧ va_T .byte (dg w) 100 (fun k => .int (digV w k)) A s s.heap := by
  have h0 : ∀ w : Nat, ∃ q : Nat, w < 2 → va_Z (gsF (w + 1)).1 (gsF (w + 1)).2.1 (gsF (w + 1)).2.2 (.ref q) A s s.heap ∧ va_T .byte q 100 (fun k => .int (digV w k)) A s s.heap := by
    intro w
    by_cases hw : w < 2
    · have hd : ∀ c ∈ digW w, c.before args s = true := fun c h => hn c (digW_in hw c h)
      obtain ⟨t, ht, hT⟩ := va_Tof (args := args) (s := s) (tm := tmD w) (ty := .byte) (N := 100) (f := fun k => .int (digV w k)) (A := A) (by decide) (hd _ (by unfold digW; exact List.mem_cons_self)) (va_eqt (hd _ (by unfold digW; exact List.mem_cons_of_mem _ List.mem_cons_self)))
        (fun j hj => va_eqt (hd _ (by unfold digW; exact List.mem_cons_of_mem _ (List.mem_cons_of_mem _ (List.mem_map.mpr ⟨j, List.mem_range.mpr hj, rfl⟩))))) hA
      refine ⟨t, fun _ => ⟨va_Zof (hts _ (w_dgL w hw)) ?_ ht hA, hT⟩⟩
      have e : (gsF (w + 1)).1 = "java/lang/Integer" := by
        obtain rfl | rfl : w = 0 ∨ w = 1 := by omega
        · rfl
        · rfl
      rw [e]
      exact hts _ w_inI
    · exact ⟨0, fun h => absurd h hw⟩
  obtain ⟨dg, h⟩ := Classical.axiomOfChoice h0
  exact ⟨dg, h⟩
theorem ap_in : ∀ y ∈ apYs, y ∈ inYs ∧ y ∈ asYs ∧ (mNm y).cls = "java/lang/AbstractStringBuilder" := by decide +kernel
theorem sel_all {s : State} {args : Array Value} (hts : ∀ w ∈ lw_tbl, w.before args s = true) : ∀ y ∈ apYs, ∀ a : Array Value, (Cond.selects "java/lang/StringBuilder" (mNm y) (mNm y)).before a s = true := by
  intro y hy a
  obtain ⟨h1, h2, h3⟩ := ap_in y hy
  have hs := hts _ (w_aSame y h2)
  rw [h3] at hs
  have hn : mNm y = ⟨"java/lang/AbstractStringBuilder", (mNm y).name, (mNm y).desc⟩ := by
    rw [← h3]
  have hp := hts _ (w_aPriv y hy)
  have hi := hts _ (w_inst y h1)
  rw [hn] at hp hi
  have h := sel_priv (s := s) (args := args) (hts _ (w_new (c := 12) (by decide))) hp hi hs
  rw [← hn] at h
  have hW : s.WarmedH s.vm := State.WarmedH.refl s
  have := Cond.onTables_warmH (args := args) (args' := a) (T := s) hW rfl rfl h
  rwa [State.setVm_self] at this
theorem start_all {p : Program} {s : State} {m : MethodId} {meth : Method} {c : Code} {b L : Nat} {xs : Nat → Int32} (C0 : lw_At p s m meth c b L xs) : ∃ Γ : CX, cxG Γ = 45 ∧ cxB Γ = s.heap.size ∧ cxL Γ = L ∧ cxX Γ = xs ∧ cxA Γ 0 = b ∧ EO Γ s ∧ EH Γ s s.heap := by
  obtain ⟨-, -, -, -, -, hts, hX, hbl, -, hgv⟩ := C0
  have hn : ∀ w ∈ nar, w.before #[Value.ref b] s = true := flat_of_before _ hgv
  have hA : ∀ a : Nat, a < s.heap.size → ¬ (fun q : Nat => s.heap.size ≤ q) a := fun a h => Nat.not_le.mpr h
  obtain ⟨ad, had⟩ := str_all (A := fun q : Nat => s.heap.size ≤ q) hn hA
  obtain ⟨cl, hcl⟩ := Classical.axiomOfChoice (clK_all hts)
  obtain ⟨ci, i1, i2⟩ := arrC_ok (hts _ w_aci)
  obtain ⟨cb, j1, j2⟩ := arrC_ok (hts _ w_acb)
  obtain ⟨c4, a4⟩ := arrO_ok (hts _ w_ao4)
  obtain ⟨c2, a2⟩ := arrO_ok (hts _ w_ao2)
  obtain ⟨c7, a7⟩ := arrO_ok (hts _ w_ao7)
  obtain ⟨c6, a6⟩ := arrO_ok (hts _ w_ao6)
  obtain ⟨c13, a13⟩ := arrO_ok (hts _ w_ao13)
  obtain ⟨cI, k1, k2⟩ := arrA_ok (hts _ w_aoI)
  obtain ⟨dg, hdg⟩ := dig_all (A := fun q : Nat => s.heap.size ≤ q) hn hts hA
  let cs : Nat → ClassId := fun k => match k with
    | 0 => ci
    | 1 => cb
    | 2 => c4
    | 3 => c2
    | 4 => c7
    | 5 => c6
    | 6 => c13
    | _ => cI
  let A0 : Nat → Nat := fun a => if a = 0 then b else if a < 45 then (if a % 2 = 1 then (ad ((a - 1) / 2)).1 else (ad (a / 2 - 1)).2) else if a < 142 then (if a % 2 = 0 then (ad ((a - 62) / 2)).1 else (ad ((a - 63) / 2)).2) else dg (a - 142)
  have eK : ∀ j, j < 40 → A0 (plS j) = (ad j).1 := fun j hj => by
    unfold plS
    by_cases q : j < 22
    · rw [if_pos q]
      show (if 2 * j + 1 = 0 then b else if 2 * j + 1 < 45 then (if (2 * j + 1) % 2 = 1 then (ad ((2 * j + 1 - 1) / 2)).1 else (ad ((2 * j + 1) / 2 - 1)).2) else _) = _
      rw [if_neg (by omega), if_pos (by omega), if_pos (by omega), show (2 * j + 1 - 1) / 2 = j by omega]
    · rw [if_neg q]
      show (if 2 * j + 62 = 0 then b else if 2 * j + 62 < 45 then _ else if 2 * j + 62 < 142 then (if (2 * j + 62) % 2 = 0 then (ad ((2 * j + 62 - 62) / 2)).1 else _) else _) = _
      rw [if_neg (by omega), if_neg (by omega), if_pos (by omega), if_pos (by omega), show (2 * j + 62 - 62) / 2 = j by omega]
  have eV : ∀ j, j < 40 → A0 (plS j + 1) = (ad j).2 := fun j hj => by
    unfold plS
    by_cases q : j < 22
    · rw [if_pos q]
      show (if 2 * j + 1 + 1 = 0 then b else if 2 * j + 1 + 1 < 45 then (if (2 * j + 1 + 1) % 2 = 1 then (ad ((2 * j + 1 + 1 - 1) / 2)).1 else (ad ((2 * j + 1 + 1) / 2 - 1)).2) else _) = _
      rw [if_neg (by omega), if_pos (by omega), if_neg (by omega), show (2 * j + 1 + 1) / 2 - 1 = j by omega]
    · rw [if_neg q]
      show (if 2 * j + 62 + 1 = 0 then b else if 2 * j + 62 + 1 < 45 then _ else if 2 * j + 62 + 1 < 142 then (if (2 * j + 62 + 1) % 2 = 0 then _ else (ad ((2 * j + 62 + 1 - 63) / 2)).2) else _) = _
      rw [if_neg (by omega), if_neg (by omega), if_pos (by omega), if_neg (by omega), show (2 * j + 62 + 1 - 63) / 2 = j by omega]
  have eD : ∀ w, w < 2 → A0 (142 + w) = dg w := fun w hw => by
    show (if 142 + w = 0 then b else if 142 + w < 45 then _ else if 142 + w < 142 then _ else dg (142 + w - 142)) = _
    rw [if_neg (by omega), if_neg (by omega), if_neg (by omega), Nat.add_sub_cancel_left]
  have e0 : A0 0 = b := rfl
  clear_value A0
  refine ⟨(s.heap.size, (fun c => (cl c).1, fun c => (cl c).2), cs, A0, L, xs, 45), rfl, rfl, rfl, rfl, e0, ⟨fun w hw hs a => wd_any (hts w hw) hs, ⟨fun c q hq => hcl c q hq, fun k q hq => ?_⟩, fun t ht => ?_, ?_, fun c hc => ?_, ⟨ci, ?_, rfl⟩, ?_, ⟨cb, ?_, rfl⟩, ?_, ⟨cI, ?_, rfl⟩, sel_all hts⟩, ⟨fun j hj => ?_, ?_, ?_, ?_, ?_, ?_, fun w hw => ?_⟩⟩
  · match k, hq with
    | 0, hq => cases hq; exact ⟨i1, i2⟩
    | 1, hq => cases hq; exact ⟨j1, j2⟩
    | 2, hq => cases hq; exact a4
    | 3, hq => cases hq; exact a2
    | 4, hq => cases hq; exact a7
    | 5, hq => cases hq; exact a6
    | 6, hq => cases hq; exact a13
    | 7, hq => cases hq; exact ⟨k1, k2⟩
    | k + 8, hq => simp [tysL] at hq
  · obtain ⟨j, hj, e1, e2⟩ := sTb_2 t ht
    obtain ⟨tx, htx⟩ := sr_in hj
    refine ⟨tx, ?_⟩
    show vk_R (cNm t.1) t.2.1 tx (A0 t.2.2) s
    rw [e2, eK j hj, e1]
    exact vk_R.of (hts _ htx) (had j hj).1
  · exact hts _ w_clC
  · simp only [List.mem_cons, List.not_mem_nil, or_false] at hc
    rcases hc with rfl | rfl | rfl | rfl | rfl
    · exact va_AO.of (hts _ w_ao2)
    · exact va_AO.of (hts _ w_ao4)
    · exact va_AO.of (hts _ w_ao6)
    · exact va_AO.of (hts _ w_ao7)
    · exact va_AO.of (hts _ w_ao13)
  · exact i2
  · exact hts _ w_clCB
  · exact j2
  · exact hts _ w_aoI
  · exact k2
  · obtain ⟨-, h1, h2, h3, h4⟩ := had j hj
    show va_O _ (A0 (plS j)) _ _ _ ∧ va_OF _ _ _ _ (A0 (plS j)) _ _ _ ∧ va_OF _ _ _ (.ref (A0 (plS j + 1))) (A0 (plS j)) _ _ _ ∧ va_T _ (A0 (plS j + 1)) _ _ _ _ _
    rw [eK j hj, eV j hj]
    exact ⟨h1, h2, h3, h4⟩
  · exact va_Zof (hts _ w_csL) (hts _ (w_init (c := 13) (by decide))) (va_eqi (hn _ n_cs)) hA
  · show va_X (A0 0) L xs s s.heap
    rw [e0]
    exact hX
  · show A0 0 < _
    rw [e0]
    exact hbl
  · show ¬ (s.heap.size ≤ A0 0)
    rw [e0]
    exact Nat.not_le.mpr hbl
  · rcases va_Zqof (hts _ w_sfL) (hts _ w_pcI) (hn _ n_sf) hA with h | ⟨t, h⟩
    · exact ⟨_, h, rfl⟩
    · exact ⟨_, h, rfl⟩
  · show va_Z _ _ _ (.ref (A0 (142 + w))) _ _ _ ∧ va_T _ (A0 (142 + w)) _ _ _ _ _
    rw [eD w hw]
    exact hdg w hw
