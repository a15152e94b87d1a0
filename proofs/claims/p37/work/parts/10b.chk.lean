/-! String.checkIndex: it returns where the index lies within. -/
def yPC : MethodName := ⟨"jdk/internal/util/Preconditions", "checkIndex", "(IILjava/util/function/BiFunction;)I"⟩
def yCI : MethodName := ⟨"java/lang/String", "checkIndex", "(II)V"⟩
theorem w_ci0 : Cond.static yCI ∈ lw_tbl := List.mem_of_getElem? (i := 338) (by decide +kernel)
theorem w_ci1 : Cond.code yCI prog_21_method_155_code 2 none ∈ lw_tbl := List.mem_of_getElem? (i := 339) (by decide +kernel)
theorem w_ci2 : Cond.fieldLink "java/lang/String" 1053 "jdk/internal/util/Preconditions" "SIOOBE_FORMATTER" "Ljava/util/function/BiFunction;" ∈ lw_tbl := List.mem_of_getElem? (i := 340) (by decide +kernel)
theorem w_ci3 : Cond.methodLink "java/lang/String" 1059 yPC ∈ lw_tbl := List.mem_of_getElem? (i := 342) (by decide +kernel)
theorem w_ci4 : Cond.static yPC ∈ lw_tbl := List.mem_of_getElem? (i := 343) (by decide +kernel)
theorem w_ci5 : Cond.code yPC prog_28_method_11_code 3 (some .int) ∈ lw_tbl := List.mem_of_getElem? (i := 344) (by decide +kernel)
theorem w_ci6 : Cond.initialized "jdk/internal/util/Preconditions" ∈ lw_tbl := List.mem_of_getElem? (i := 35) (by decide +kernel)
section CHK
variable {p : Program} {l : Launch} {e : Env} {R : Room} {s : State} {m : MethodId} {args : Array Value} {below : List Frame} {meth : Method} {c : Code} {H : Heap} {locs : List Loc} {cells slots : Nat} {Q : State → Prop}
variable {Γ : CX} {pc : Nat} {lk : Array Slot} {rest : List Value} {cc : ByteArray} {M : PM}
/-- behind a call -/
theorem callW {mc ms : Nat} {st0 : List Value} {Qa : State → Outcome → State → Prop} {free : Addr → Prop} (hr : va_Run p l e R s m args below meth c H locs cells slots mc ms (F0 m pc lk st0) rest Qa free)
    (kk : ∀ (v : Option Value) (st₀ t : State) (L : List Loc), st₀.heap = H → (∀ q ∈ L, free q.base) → Qa st₀ (.returned v) t → s.vm.Alike t.vm → W p l e R s m args below meth c t.heap (locs ++ L) (cells + mc) (slots + ms) Q (F0 m (pc + 3) lk (v.toList ++ rest))) : W p l e R s m args below meth c H locs cells slots Q (F0 m pc lk st0) := by
  intro T hT X
  obtain ⟨v, st₀, t, T', L, h0, X', hL, e1, e2, hq, st⟩ := hr T hT X
  obtain ⟨t2, a1, b1⟩ := kk v st₀ t L h0 hL hq (by rw [← e2]; exact X'.warmed.alike) T' e1 X'
  exact ⟨t2, st t2 a1, b1⟩
set_option maxRecDepth 100000 in
set_option maxHeartbeats 4000000 in
theorem c_pc (l : Launch) : Met l yPC [Cond.code yPC prog_28_method_11_code 3 (some .int)] { frames := 0, cells := 0, slots := 0, locals := 0 } (fun a _ => ∃ (i n : Int32) (v : Value), a = #[.int i, .int n, v] ∧ v.category = 1 ∧ 0 ≤ i.toInt ∧ i.toInt < n.toInt)
    (fun _ st o t => (∃ i, o = .returned (some (.int i))) ∧ t.heap = st.heap) 0 0 (fun _ => False) := by
  refine va_MetF (cc := prog_28_method_11_code) (maxL := 3) (ret := some .int) (by decide +kernel) rfl ?_
  intro p e s m args below meth c s₁ B hml hv
  obtain ⟨i, n, v, rfl, hvc, h0, h1⟩ := hv
  have hx := B.exec
  have hb := B.bytes
  have hr := B.returns
  have hlocks := B.notSynchronized
  have hlen : (lg_sl ([.int i, .int n, v] : List Value)).length ≤ 3 := by simp [lg_sl, hvc, show (Value.int i).category = 1 from rfl, show (Value.int n).category = 1 from rfl]
  have hl := lv_entry ([.int i, .int n, v]) (n := 3) hlen
  rw [show (#[Value.int i, Value.int n, v] : Array Value) = ([.int i, .int n, v] : List Value).toArray from rfl, lg_entry_eq]
  generalize (lg_sl ([.int i, .int n, v] : List Value) ++ List.replicate (3 - (lg_sl ([.int i, .int n, v] : List Value)).length) Slot.unset).toArray = ls at hl ⊢
  refine lv_iload_n (i := 0) (x := i) hx hb (by decide +kernel : decode prog_28_method_11_code 0 = .ok (.iload_n 0, 1)) rfl (lv_at hl 0 rfl) ?_
  refine lv_if_lt (tgt := 9) hx hb (by decide +kernel : decode prog_28_method_11_code 1 = .ok (.ifCond .lt 8, 3)) (by decide) (fun hc => ?_) (fun _ => ?_)
  · have := Int32.lt_iff_toInt_lt.mp hc
    simp at this
    omega
  refine lv_iload_n (i := 0) (x := i) hx hb (by decide +kernel : decode prog_28_method_11_code 4 = .ok (.iload_n 0, 1)) rfl (lv_at hl 0 rfl) ?_
  refine lv_iload_n (i := 1) (x := n) hx hb (by decide +kernel : decode prog_28_method_11_code 5 = .ok (.iload_n 1, 1)) rfl (lv_at hl 1 rfl) ?_
  refine lv_icmp_lt (tgt := 16) hx hb (by decide +kernel : decode prog_28_method_11_code 6 = .ok (.if_icmp .lt 10, 3)) (by decide) (fun _ => ?_) (fun hc => ?_)
  · refine lv_iload_n (i := 0) (x := i) hx hb (by decide +kernel : decode prog_28_method_11_code 16 = .ok (.iload_n 0, 1)) rfl (lv_at hl 0 rfl) ?_
    exact W.iret (v := i) hx hb hr (fun t ht hW => ⟨⟨i, rfl⟩, ht⟩) (fun q hq => by cases hq) (by decide +kernel : decode prog_28_method_11_code 17 = .ok (.ireturn, 1))
  · exact absurd (Int32.lt_iff_toInt_lt.mpr h1) hc
set_option maxRecDepth 100000 in
set_option maxHeartbeats 4000000 in
theorem c_ci (l : Launch) (Γ : CX) : Met l yCI [Cond.code yCI prog_21_method_155_code 2 none] { frames := 1, cells := 0, slots := 0, locals := 30 } (fun a U => ∃ (i n : Int32), a = #[.int i, .int n] ∧ 0 ≤ i.toInt ∧ i.toInt < n.toInt ∧ EO Γ U ∧ EH Γ U U.heap)
    (fun _ st o t => o = .returned none ∧ t.heap = st.heap) 0 0 (fun _ => False) := by
  refine va_MetF (cc := prog_21_method_155_code) (maxL := 2) (ret := none) (by decide +kernel) rfl ?_
  intro p e s m args below meth c s₁ B hml hv
  obtain ⟨i, n, rfl, h0, h1, hE, hH⟩ := hv
  have hx := B.exec
  have hb := B.bytes
  have hr := B.returns
  have hlocks := B.notSynchronized
  have hown : s.vm.findClass "java/lang/String" = some m.cls := findClass_of_methodNamed B.named
  have hl := lv_entry ([.int i, .int n]) (n := 2) (Nat.le_of_ble_eq_true rfl)
  rw [show (#[Value.int i, Value.int n] : Array Value) = ([.int i, .int n] : List Value).toArray from rfl, lg_entry_eq]
  generalize (lg_sl ([.int i, .int n] : List Value) ++ List.replicate (2 - (lg_sl ([.int i, .int n] : List Value)).length) Slot.unset).toArray = ls at hl ⊢
  obtain ⟨-, -, -, -, -, ⟨v, hZ, hvc⟩, -⟩ := hH
  refine lv_iload_n (i := 0) (x := i) hx hb (by decide +kernel : decode prog_21_method_155_code 0 = .ok (.iload_n 0, 1)) rfl (lv_at hl 0 rfl) ?_
  refine lv_iload_n (i := 1) (x := n) hx hb (by decide +kernel : decode prog_21_method_155_code 1 = .ok (.iload_n 1, 1)) rfl (lv_at hl 1 rfl) ?_
  refine va_gets hx hb hZ (va_S.rf : va_S (AF Γ) s.heap s.heap []) hown (hE.1 _ w_ci2 rfl _) (fun _ h => h) (by decide +kernel : decode prog_21_method_155_code 2 = .ok (.getstatic 1053, 3)) ?_
  refine callW (rest := []) (va_runS (y := yPC) (bytes := prog_28_method_11_code) (maxL := 3) (ret := some .int) (ws := [Cond.code yPC prog_28_method_11_code 3 (some .int)]) (rm := { frames := 0, cells := 0, slots := 0, locals := 0 }) (Ts := []) (nL := 2) (own := "java/lang/String") (n := 3) (As := [.int i, .int n, v]) (rest := [])
    ⟨hx, hb, hml, hown, fun _ h => absurd h List.not_mem_nil⟩ (c_pc l) ⟨⟨rfl, rfl, Nat.le_refl _, Nat.le_of_ble_eq_true rfl, fun w hw a' U hW => by
        obtain rfl := List.mem_singleton.mp hw
        exact (hE.warm hW).1 _ w_ci5 rfl a', List.mem_singleton.mpr rfl, hE.1 _ w_ci5 rfl _, hE.1 _ w_ci6 rfl _, ⟨by decide, by decide⟩, (fun sig h => by
        have h2 : (parseMethodDescriptor yPC.desc).map (fun d => d.parameters.length) = some 3 := by decide +kernel
        rw [h] at h2
        exact (Option.some.inj h2).symm), hE.1 _ w_ci3 rfl _⟩, hE.1 _ w_ci4 rfl _⟩
    ⟨fun _ _ _ _ q => q, fun U _ _ => ⟨i, n, v, rfl, hvc, h0, h1⟩⟩ rfl rfl hl.1 rfl (Nat.le_of_ble_eq_true rfl) (by decide +kernel : decode prog_21_method_155_code 5 = .ok (.invokestatic 1059, 3)) ⟨Nat.le_refl _, Nat.le_refl _⟩) ?_
  intro w st₀ t L hs0 hL hq hal
  obtain ⟨⟨r, hw⟩, hh⟩ := hq
  cases hw
  have hL0 : L = [] := by
    cases L with
    | nil => rfl
    | cons a b => exact (hL a List.mem_cons_self).elim
  subst hL0
  rw [hh, hs0]
  refine lv_pop hx hb (by decide +kernel : decode prog_21_method_155_code 8 = .ok (.pop, 1)) rfl ?_
  exact W.vret hx hb hr (fun t ht hW => ⟨rfl, ht⟩) (fun q hq => by cases hq) (by decide +kernel : decode prog_21_method_155_code 9 = .ok (.return_, 1))
theorem m_chk (hx : p.tables.exec = Jvm.exec) (hb : c.code = cc) (hlk : lk.size = c.maxLocals) (hown : s.vm.findClass (cNm 14) = some m.cls) (hE : EO Γ s) (hH : EH Γ s s.heap) (hM : RelM Γ M H) (hS : va_S (AF Γ) s.heap H locs) {i n : Int32} (h0 : 0 ≤ i.toInt) (h1 : i.toInt < n.toInt)
    (hf : 2 ≤ R.frames) (hlo : 100 ≤ R.locals) (hr8 : (rest.map fun v => v.category).sum ≤ 8) (hc : cells ≤ R.cells) (hs : slots ≤ R.slots) (hdg : decode cc pc = .ok (.invokestatic 9, 3))
    (kk : ∀ (H1 : Heap) (locs1 : List Loc), RelM Γ M H1 → va_S (AF Γ) s.heap H1 locs1 → W p l e R s m args below meth c H1 locs1 cells slots Q (F0 m (pc + 3) lk rest)) : W p l e R s m args below meth c H locs cells slots Q (F0 m pc lk (.int n :: .int i :: rest)) := by
  refine callW (rest := rest) (va_runS (y := yCI) (bytes := prog_21_method_155_code) (maxL := 2) (ret := none) (ws := [Cond.code yCI prog_21_method_155_code 2 none]) (rm := { frames := 1, cells := 0, slots := 0, locals := 30 }) (Ts := []) (nL := lk.size) (own := cNm 14) (n := 2) (As := [.int i, .int n]) (rest := rest)
    ⟨hx, hb, hlk.symm, hown, fun _ h => absurd h List.not_mem_nil⟩ (c_ci l Γ) ⟨⟨rfl, rfl, by show 1 + 1 ≤ _; omega, by show 8 + (2 + 11) + 30 ≤ _; omega, fun w hw a' U hW => by
        obtain rfl := List.mem_singleton.mp hw
        exact (hE.warm hW).1 _ w_ci1 rfl a', List.mem_singleton.mpr rfl, hE.1 _ w_ci1 rfl _, hE.1 _ (w_init (c := 13) (by decide)) rfl _, ⟨by decide, by decide⟩, (fun sig h => by
        have h2 : (parseMethodDescriptor yCI.desc).map (fun d => d.parameters.length) = some 2 := by decide +kernel
        rw [h] at h2
        exact (Option.some.inj h2).symm), hE.1 _ w_ciL rfl _⟩, hE.1 _ w_ci0 rfl _⟩
    ⟨fun a U g mk q => by
      obtain ⟨i, n, q1, q2, q3, q4, q5⟩ := q
      exact ⟨i, n, q1, q2, q3, q4.warm (State.WarmedH.refl U), q5.kept (Vm.Alike.refl _) (Nat.le_refl _) (fun _ _ _ => rfl)⟩, fun U hU hW => ⟨i, n, rfl, h0, h1, hE.warm hW, by rw [hU]; exact hH.kept hW.alike hS.1 hS.2.1⟩⟩ rfl rfl rfl rfl (by show 2 * 0 + _ ≤ _; omega) hdg ⟨hc, hs⟩) ?_
  intro w st₀ t L hs0 hL hq hal
  obtain ⟨hw, hh⟩ := hq
  cases hw
  have hL0 : L = [] := by
    cases L with
    | nil => rfl
    | cons a b => exact (hL a List.mem_cons_self).elim
  subst hL0
  rw [hh, hs0, List.append_nil]
  exact kk H locs hM hS
end CHK
