/-! The model's events: read, folded. -/
def EVM (G : IM) (L : List EV) : Prop := G 106 14 = z32 (L.length : Int) ∧ L.length ≤ 240 ∧ (∀ i e, L[i]? = some e → ∀ c, c < 6 → G (113 + c) (i + 1) = colE c e) ∧ ∀ s, s < 8 → G 120 s = z32 (vrS L s : Int)
def CSM (G : IM) (C : CF) : Prop := G 106 22 = z32 (eraC C : Int) ∧ (∀ k, k < 9 → G 119 k = z32 ((C k).length : Int)) ∧ CWF C ∧ ∀ (k i : Nat) (c : Tx × Tx), k < 9 → (C k)[i]? = some c → FMc G (6 * k + 2 * i) (encV c.1) ∧ FMc G (6 * k + 2 * i + 1) (encV c.2)
theorem FMc.mv {I I2 : IM} {sl : Nat} {e : Tx} (h : FMc I sl e) (h1 : ∀ k, 245 * sl ≤ k → k < 245 * sl + 245 → I2 109 k = I 109 k) (h2 : I2 110 sl = I 110 sl) : FMc I2 sl e := ⟨h2.trans h.1, h.2.1, fun k hk => (h1 _ (by omega) (by have := h.2.1; omega)).trans (h.2.2 k hk)⟩
theorem FMc.st {I I2 : IM} {sl : Nat} {e : Tx} (h : FMc I sl e) (hf : SFt I I2) (hs : sl < 70) : FMc I2 sl e := h.mv (fun k h1 h2 => hf _ _ (by unfold Sc; omega)) (hf _ _ (by unfold Sc; omega))
theorem EVM.st {I I2 : IM} {L : List EV} (h : EVM I L) (hf : SFt I I2) : EVM I2 L := ⟨(hf _ _ (by unfold Sc; omega)).trans h.1, h.2.1, fun i e he c hc => (hf _ _ (by unfold Sc; omega)).trans (h.2.2.1 i e he c hc), fun s hs => (hf _ _ (by unfold Sc; omega)).trans (h.2.2.2 s hs)⟩
theorem CWF.i3 {C : CF} (h : CWF C) {k i : Nat} {c : Tx × Tx} (hk : k < 9) (he : (C k)[i]? = some c) : i < 3 := by
  have := h.1 k hk
  have := (List.getElem?_eq_some_iff.mp he).1
  omega
theorem CSM.st {I I2 : IM} {C : CF} (h : CSM I C) (hf : SFt I I2) : CSM I2 C := ⟨(hf _ _ (by unfold Sc; omega)).trans h.1, fun k hk => (hf _ _ (by unfold Sc; omega)).trans (h.2.1 k hk), h.2.2.1, fun k i c hk he => by
  have hi := h.2.2.1.i3 hk he
  obtain ⟨a, b⟩ := h.2.2.2 k i c hk he
  exact ⟨a.st hf (by omega), b.st hf (by omega)⟩⟩
/-- what reading an event may change -/
def RFm (I I2 : IM) : Prop := ∀ q k, ¬ (q = 111 ∨ (q = 112 ∧ k < 3) ∨ (q = 106 ∧ (k = 25 ∨ k = 26))) → I2 q k = I q k
theorem RFm.rf {I : IM} : RFm I I := fun _ _ _ => rfl
theorem RFm.tr {I I2 I3 : IM} (h : RFm I I2) (h2 : RFm I2 I3) : RFm I I3 := fun q k e => (h2 q k e).trans (h q k e)
theorem RFm.up {I : IM} {q k : Nat} {v : Int32} (h : q = 111 ∨ (q = 112 ∧ k < 3) ∨ (q = 106 ∧ (k = 25 ∨ k = 26))) : RFm I (up2 I q k v) := fun a j e => if_neg (fun c => e (by rw [c.1, c.2]; exact h))
theorem RFm.s {I I2 : IM} (h : RFm I I2) : SFr I I2 := fun q k e => h q k (fun c => e (by unfold Sc; omega))
theorem WFr.r {I I2 : IM} (h : WFr I I2) : RFm I I2 := fun q k e => h q k (by omega)
theorem e_slot0 {d : Nat} {I : IM} {D : DY} {K : Int32 → IM → Prop} (k i : Nat) : CI d 189 [vI (z32 (k : Int)), vI (z32 (i : Int)), vI 0] (mm I D) K ↔ K (z32 ((6 * k + 2 * i : Nat) : Int)) I := by
  refine CI_iff (s_M_castSlot _ _ _ (qI_i ⟨?_, rfl⟩))
  show z32 2 * (z32 3 * z32 _ + z32 _) + z32 0 = _
  rw [z32_mul, z32_add, z32_mul, z32_add]
  congr 1
  omega
theorem e_slot1 {d : Nat} {I : IM} {D : DY} {K : Int32 → IM → Prop} (k i : Nat) : CI d 189 [vI (z32 (k : Int)), vI (z32 (i : Int)), vI 1] (mm I D) K ↔ K (z32 ((6 * k + 2 * i + 1 : Nat) : Int)) I := by
  refine CI_iff (s_M_castSlot _ _ _ (qI_i ⟨?_, rfl⟩))
  show z32 2 * (z32 3 * z32 _ + z32 _) + z32 1 = _
  rw [z32_mul, z32_add, z32_mul, z32_add]
  congr 1
  omega
theorem mread_loop {d : Nat} {D : DY} {K : IM → Prop} {C : CF} {L : List EV} {I0 : IM} {i : Nat} {e : EV} (hE : EVM I0 L) (hC : CSM I0 C) (he : L[i]? = some e) (hk : eK e < 9) :
    ∀ (g j : Nat) (I : IM) (ab : Int32 × Int32) (w3 w4 : PV), RFm I0 I → j + g = (C (eK e)).length → I 106 25 = ab.1 → I 106 26 = ab.2 →
    (∀ I2, RFm I0 I2 → I2 106 25 = (rdL (eS e) ((C (eK e)).drop j) ab).1 → I2 106 26 = (rdL (eS e) ((C (eK e)).drop j) ab).2 → K I2) →
    Wp GG (d + 2) 195 29 [vR (some 106), vI (z32 ((i + 1 : Nat) : Int)), vI (z32 (j : Int)), w3, w4] [] (mm I D) (qV (mm I0 D) K) := by
  have hi : i < L.length := (List.getElem?_eq_some_iff.mp he).1
  have hn := hE.2.1
  have hp : inB (z32 ((i + 1 : Nat) : Int)) 241 := inB_n (by omega) (by omega)
  have hc3 := hC.2.2.1.1 (eK e) hk
  intro g
  induction g with
  | zero =>
    intro j I ab w3 w4 f hj h25 h26 k
    have e115 : I 115 (i + 1) = z32 (eK e : Int) := (f _ _ (by omega)).trans (hE.2.2.1 i e he 2 (by omega))
    have e119 : I 119 (eK e) = z32 ((C (eK e)).length : Int) := (f _ _ (by omega)).trans (hC.2.1 _ hk)
    refine s_M_read_29 _ _ _ _ (tsP_i hp ?_)
    rw [ix_n (by omega), e115]
    refine tsP_i (inB_n hk (by omega)) ?_
    rw [ix_n (by omega), e119]
    refine (brP_t (by rw [z32_le] <;> omega)).mpr ⟨_, rfl, rfl, ?_⟩
    rw [List.drop_eq_nil_of_le (by omega)] at k
    exact k I f h25 h26
  | succ g ih =>
    intro j I ab w3 w4 f hj h25 h26 k
    have hjl : j < (C (eK e)).length := by omega
    have col : ∀ {J : IM}, RFm I0 J → ∀ c, c < 6 → J (113 + c) (i + 1) = colE c e := fun fj c hc => (fj _ _ (by omega)).trans (hE.2.2.1 i e he c hc)
    have e119 : I 119 (eK e) = z32 ((C (eK e)).length : Int) := (f _ _ (by omega)).trans (hC.2.1 _ hk)
    obtain ⟨c, hcj⟩ : ∃ c, (C (eK e))[j]? = some c := ⟨_, List.getElem?_eq_getElem hjl⟩
    obtain ⟨wa, wb⟩ := hC.2.2.1.2 (eK e) j c hk hcj
    have hdr : (C (eK e)).drop j = c :: (C (eK e)).drop (j + 1) := by
      rw [List.drop_eq_getElem_cons hjl]
      congr 1
      have := List.getElem?_eq_getElem hjl
      rw [hcj] at this
      injection this with this
      exact this.symm
    rw [hdr] at k
    have k : ∀ I2, RFm I0 I2 → I2 106 25 = (rdL (eS e) ((C (eK e)).drop (j + 1)) (valV (env3 ab.1 ab.2 (z32 (eS e : Int))) c.1, valV (env3 ab.1 ab.2 (z32 (eS e : Int))) c.2)).1 → I2 106 26 = (rdL (eS e) ((C (eK e)).drop (j + 1)) (valV (env3 ab.1 ab.2 (z32 (eS e : Int))) c.1, valV (env3 ab.1 ab.2 (z32 (eS e : Int))) c.2)).2 → K I2 := k
    refine s_M_read_29 _ _ _ _ (tsP_i hp ?_)
    have c2 : I 115 (i + 1) = z32 (eK e : Int) := col f 2 (by omega)
    have c0 : I 113 (i + 1) = z32 (eS e : Int) := col f 0 (by omega)
    rw [ix_n (by omega), c2]
    refine tsP_i (inB_n hk (by omega)) ?_
    rw [ix_n (by omega), e119]
    refine (brP_f (by rw [z32_le] <;> omega)).mpr (tsP_i hp (tsP_i hp ?_))
    rw [h25, h26, c0]
    have fJ : RFm I0 (up2 (up2 (up2 I 112 0 ab.1) 112 1 ab.2) 112 2 (z32 (eS e : Int))) := f.tr ((RFm.up (by omega)).tr ((RFm.up (by omega)).tr (RFm.up (by omega))))
    have vJ : ∀ q, q < 3 → up2 (up2 (up2 I 112 0 ab.1) 112 1 ab.2) 112 2 (z32 (eS e : Int)) 112 q = env3 ab.1 ab.2 (z32 (eS e : Int)) q := fun q hq => by
      rcases (by omega : q = 0 ∨ q = 1 ∨ q = 2) with rfl | rfl | rfl
      · rw [up2_nj (by omega), up2_nj (by omega), up2_eq]; rfl
      · rw [up2_nj (by omega), up2_eq]; rfl
      · rw [up2_eq]; rfl
    generalize hJ : up2 (up2 (up2 I 112 0 ab.1) 112 1 ab.2) 112 2 (z32 (eS e : Int)) = J at *
    have J25 : J 106 25 = ab.1 := by rw [← hJ, up2_ne (by omega), up2_ne (by omega), up2_ne (by omega), h25]
    have J26 : J 106 26 = ab.2 := by rw [← hJ, up2_ne (by omega), up2_ne (by omega), up2_ne (by omega), h26]
    rw [e_slot0]
    obtain ⟨fa, -⟩ := (hC.st fJ.s.t).2.2.2 (eK e) j c hk hcj
    refine c_worked (env := env3 ab.1 ab.2 (z32 (eS e : Int))) (nv := 3) (by omega) (by omega) vJ wa fa (fun I1 f1 => tsP_i hp ?_)
    have f1' := fJ.tr f1.r
    have c2' : I1 115 (i + 1) = z32 (eK e : Int) := col f1' 2 (by omega)
    rw [c2', f1 106 25 (by omega), f1 106 26 (by omega), J25, J26, e_slot1]
    have fQ : RFm I0 (up2 (up2 I1 112 0 ab.1) 112 1 ab.2) := f1'.tr ((RFm.up (by omega)).tr (RFm.up (by omega)))
    have vQ : ∀ q, q < 3 → up2 (up2 I1 112 0 ab.1) 112 1 ab.2 112 q = env3 ab.1 ab.2 (z32 (eS e : Int)) q := fun q hq => by
      rcases (by omega : q = 0 ∨ q = 1 ∨ q = 2) with rfl | rfl | rfl
      · rw [up2_nj (by omega), up2_eq]; rfl
      · rw [up2_eq]; rfl
      · rw [up2_nj (by omega), up2_nj (by omega), f1 112 2 (by omega), vJ 2 (by omega)]
    obtain ⟨-, fb⟩ := (hC.st fQ.s.t).2.2.2 (eK e) j c hk hcj
    refine c_worked (env := env3 ab.1 ab.2 (z32 (eS e : Int))) (nv := 3) (by omega) (by omega) vQ wb fb (fun I2 f2 => ?_)
    rw [z32_s]
    refine ih (j + 1) _ _ _ _ ((fQ.tr f2.r).tr ((RFm.up (by omega)).tr (RFm.up (by omega)))) (by omega) ?_ up2_eq k
    rw [up2_nj (by omega), up2_eq]
theorem c_mread {d : Nat} {I : IM} {D : DY} {K : IM → Prop} {C : CF} {L : List EV} {i : Nat} {e : EV} (hE : EVM I L) (hC : CSM I C) (he : L[i]? = some e) (ho : okEv C e)
    (k : ∀ I2, RFm I I2 → I2 106 25 = (rdE C e).1 → I2 106 26 = (rdE C e).2 → K I2) : CV (d + 2) 195 [vR (some 106), vI (z32 ((i + 1 : Nat) : Int))] (mm I D) K := by
  have hi : i < L.length := (List.getElem?_eq_some_iff.mp he).1
  have hn := hE.2.1
  have hp : inB (z32 ((i + 1 : Nat) : Int)) 241 := inB_n (by omega) (by omega)
  obtain ⟨o1, o2, o3, o4⟩ := ho
  refine s_M_read _ (tsP_i hp (tsP_i hp (tsP_i hp ?_)))
  have c3 : I 116 (i + 1) = z32 (eF e : Int) := hE.2.2.1 i e he 3 (by omega)
  have c4 : I 117 (i + 1) = eA e := hE.2.2.1 i e he 4 (by omega)
  have c5 : I 118 (i + 1) = eB e := hE.2.2.1 i e he 5 (by omega)
  have ef : z32 (eF e : Int) - 1 = z32 ((eF e - 1 : Nat) : Int) := by
    show _ - z32 1 = _
    rw [z32_sub]
    congr 1
    omega
  rw [ix_n (by omega), c3, c4, c5, ef]
  refine mread_loop (d := d) (i := i) (C := C) (L := L) (e := e) (I0 := I) hE hC he o2 ((C (eK e)).length - (eF e - 1)) (eF e - 1) _ (eA e, eB e) _ _ ((RFm.up (by omega)).tr (RFm.up (by omega))) (by omega) ?_ up2_eq k
  rw [up2_nj (by omega), up2_eq]
def Z4 (I : IM) (x : S4) : Prop := ∀ w, w < 4 → I 121 w = s4 w x
def FoF (I I2 : IM) : Prop := ∀ q k, ¬ (q = 111 ∨ (q = 112 ∧ k < 3) ∨ (q = 106 ∧ (k = 25 ∨ k = 26)) ∨ q = 121) → I2 q k = I q k
theorem FoF.rf {I : IM} : FoF I I := fun _ _ _ => rfl
theorem FoF.tr {I I2 I3 : IM} (h : FoF I I2) (h2 : FoF I2 I3) : FoF I I3 := fun q k e => (h2 q k e).trans (h q k e)
theorem FoF.s {I I2 : IM} (h : FoF I I2) : SFr I I2 := fun q k e => h q k (fun c => e (by unfold Sc; omega))
theorem RFm.fo {I I2 : IM} (h : RFm I I2) : FoF I I2 := fun q k e => h q k (by omega)
theorem Z4.r {I I2 : IM} {x : S4} (h : Z4 I x) (hf : RFm I I2) : Z4 I2 x := fun w hw => (hf _ _ (by omega)).trans (h w hw)
theorem c_mchange {d : Nat} {I : IM} {D : DY} {K : IM → Prop} {x : S4} {k : Nat} {a : Int32} (hk : k < 9) (h : Z4 I x) (kk : ∀ I2, (∀ q j, q ≠ 121 → I2 q j = I q j) → Z4 I2 (chg k a x) → K I2) : CV d 198 [vR (some 106), vI (z32 (k : Int)), vI a] (mm I D) K := by
  have h0 := h 0 (by omega)
  have h1 := h 1 (by omega)
  have h2 := h 2 (by omega)
  have h3 := h 3 (by omega)
  have u1 : ∀ {j : Nat} {v : Int32} {y : S4}, (∀ w, w < 4 → up2 I 121 j v 121 w = s4 w y) → y = chg k a x → qV (mm I D) K none (mm (up2 I 121 j v) D) := fun hw hy => qV_i (kk _ (fun q i c => up2_ne c) (by rw [← hy]; exact hw))
  refine s_M_change _ _ ?_
  rcases (by omega : k = 0 ∨ k = 1 ∨ k = 2 ∨ k = 3 ∨ k = 4 ∨ k = 5 ∨ k = 6 ∨ k = 7 ∨ k = 8) with rfl | rfl | rfl | rfl | rfl | rfl | rfl | rfl | rfl
  · refine (brP_t (by decide)).mpr (qV_i (kk _ (fun q i c => by rw [up2_ne c, up2_ne c]) (fun w hw => ?_)))
    rcases (by omega : w = 0 ∨ w = 1 ∨ w = 2 ∨ w = 3) with rfl | rfl | rfl | rfl
    · rw [up2_nj (by omega), up2_eq]; rfl
    · rw [up2_nj (by omega), up2_nj (by omega), h1]; rfl
    · rw [up2_nj (by omega), up2_nj (by omega), h2]; rfl
    · rw [up2_eq]; rfl
  · refine (brP_f (by decide)).mpr ((brP_t (by decide)).mpr (u1 (y := (x.1, x.2.1 + a, x.2.2.1, x.2.2.2)) (fun w hw => ?_) rfl))
    rcases (by omega : w = 0 ∨ w = 1 ∨ w = 2 ∨ w = 3) with rfl | rfl | rfl | rfl
    · rw [up2_nj (by omega), h0]; rfl
    · rw [up2_eq, h1]; rfl
    · rw [up2_nj (by omega), h2]; rfl
    · rw [up2_nj (by omega), h3]; rfl
  · refine (brP_f (by decide)).mpr ((brP_f (by decide)).mpr ((brP_t (by decide)).mpr (u1 (y := (x.1, x.2.1 - a, x.2.2.1, x.2.2.2)) (fun w hw => ?_) rfl)))
    rcases (by omega : w = 0 ∨ w = 1 ∨ w = 2 ∨ w = 3) with rfl | rfl | rfl | rfl
    · rw [up2_nj (by omega), h0]; rfl
    · rw [up2_eq, h1]; rfl
    · rw [up2_nj (by omega), h2]; rfl
    · rw [up2_nj (by omega), h3]; rfl
  · refine (brP_f (by decide)).mpr ((brP_f (by decide)).mpr ((brP_f (by decide)).mpr ((brP_t (by decide)).mpr (u1 (y := (x.1, x.2.1, x.2.2.1 + a, x.2.2.2)) (fun w hw => ?_) rfl))))
    rcases (by omega : w = 0 ∨ w = 1 ∨ w = 2 ∨ w = 3) with rfl | rfl | rfl | rfl
    · rw [up2_nj (by omega), h0]; rfl
    · rw [up2_nj (by omega), h1]; rfl
    · rw [up2_eq, h2]; rfl
    · rw [up2_nj (by omega), h3]; rfl
  · refine (brP_f (by decide)).mpr ((brP_f (by decide)).mpr ((brP_f (by decide)).mpr ((brP_f (by decide)).mpr ((brP_t (by decide)).mpr (u1 (y := (x.1, x.2.1, x.2.2.1 - a, x.2.2.2)) (fun w hw => ?_) rfl)))))
    rcases (by omega : w = 0 ∨ w = 1 ∨ w = 2 ∨ w = 3) with rfl | rfl | rfl | rfl
    · rw [up2_nj (by omega), h0]; rfl
    · rw [up2_nj (by omega), h1]; rfl
    · rw [up2_eq, h2]; rfl
    · rw [up2_nj (by omega), h3]; rfl
  · refine (brP_f (by decide)).mpr ((brP_f (by decide)).mpr ((brP_f (by decide)).mpr ((brP_f (by decide)).mpr ((brP_f (by decide)).mpr ((brP_t (by decide)).mpr (u1 (y := (x.1, x.2.1, x.2.2.1, a)) (fun w hw => ?_) rfl))))))
    rcases (by omega : w = 0 ∨ w = 1 ∨ w = 2 ∨ w = 3) with rfl | rfl | rfl | rfl
    · rw [up2_nj (by omega), h0]; rfl
    · rw [up2_nj (by omega), h1]; rfl
    · rw [up2_nj (by omega), h2]; rfl
    · rw [up2_eq]; rfl
  · refine (brP_f (by decide)).mpr ((brP_f (by decide)).mpr ((brP_f (by decide)).mpr ((brP_f (by decide)).mpr ((brP_f (by decide)).mpr ((brP_f (by decide)).mpr ((brP_t (by decide)).mpr (u1 (y := (x.1, x.2.1 - a, x.2.2.1, x.2.2.2)) (fun w hw => ?_) rfl)))))))
    rcases (by omega : w = 0 ∨ w = 1 ∨ w = 2 ∨ w = 3) with rfl | rfl | rfl | rfl
    · rw [up2_nj (by omega), h0]; rfl
    · rw [up2_eq, h1]; rfl
    · rw [up2_nj (by omega), h2]; rfl
    · rw [up2_nj (by omega), h3]; rfl
  · refine (brP_f (by decide)).mpr ((brP_f (by decide)).mpr ((brP_f (by decide)).mpr ((brP_f (by decide)).mpr ((brP_f (by decide)).mpr ((brP_f (by decide)).mpr ((brP_f (by decide)).mpr ((brP_t (by decide)).mpr (u1 (y := (x.1, x.2.1 + a, x.2.2.1, x.2.2.2)) (fun w hw => ?_) rfl))))))))
    rcases (by omega : w = 0 ∨ w = 1 ∨ w = 2 ∨ w = 3) with rfl | rfl | rfl | rfl
    · rw [up2_nj (by omega), h0]; rfl
    · rw [up2_eq, h1]; rfl
    · rw [up2_nj (by omega), h2]; rfl
    · rw [up2_nj (by omega), h3]; rfl
  · refine (brP_f (by decide)).mpr ((brP_f (by decide)).mpr ((brP_f (by decide)).mpr ((brP_f (by decide)).mpr ((brP_f (by decide)).mpr ((brP_f (by decide)).mpr ((brP_f (by decide)).mpr ((brP_f (by decide)).mpr (u1 (y := (2, x.2.1, x.2.2.1, x.2.2.2)) (fun w hw => ?_) rfl))))))))
    rcases (by omega : w = 0 ∨ w = 1 ∨ w = 2 ∨ w = 3) with rfl | rfl | rfl | rfl
    · rw [up2_eq]; rfl
    · rw [up2_nj (by omega), h1]; rfl
    · rw [up2_nj (by omega), h2]; rfl
    · rw [up2_nj (by omega), h3]; rfl
/-- the model's fold: the events of a stream up to a version -/
def foE (C : CF) (s v : Nat) (x : S4) (e : EV) : S4 := if eS e = s ∧ eV e ≤ v then chg (eK e) (rdE C e).1 x else x
def foV (C : CF) (s v : Nat) (L : List EV) : S4 := L.foldl (foE C s v) (0, 0, 0, 0)
theorem foV_snoc {C : CF} {s v : Nat} {L : List EV} {e : EV} : foV C s v (L ++ [e]) = foE C s v (foV C s v L) e := by
  unfold foV
  rw [List.foldl_append]
  rfl
theorem take_s {L : List EV} {i : Nat} {e : EV} (h : L[i]? = some e) : L.take (i + 1) = L.take i ++ [e] := by
  have hi := (List.getElem?_eq_some_iff.mp h).1
  have h2 := (List.getElem?_eq_some_iff.mp h).2
  rw [List.take_add, List.drop_eq_getElem_cons hi, h2]
  rfl
/-- what a fold needs of events -/
def evB (e : EV) : Prop := eV e ≤ 240
theorem fold_loop {d : Nat} {D : DY} {K : IM → Prop} {C : CF} {L : List EV} {I0 : IM} {s v n : Nat} (hE : EVM I0 L) (hC : CSM I0 C) (ho : ∀ e ∈ L, okEv C e) (hv : ∀ e ∈ L, eV e ≤ 240) (hs : s < 8) (hvv : v ≤ 240) (hn : n ≤ L.length)
    (k : ∀ I2, FoF I0 I2 → Z4 I2 (foV C s v (L.take n)) → K I2) :
    ∀ (g i : Nat) (I : IM), i + g = n → FoF I0 I → Z4 I (foV C s v (L.take i)) → Wp GG (d + 3) 194 26 [vR (some 106), vI (z32 (s : Int)), vI (z32 (n : Int)), vI (z32 (v : Int)), vI (z32 ((i + 1 : Nat) : Int))] [] (mm I D) (qV (mm I0 D) K) := by
  have h240 := hE.2.1
  intro g
  induction g with
  | zero =>
    intro i I hi f hx
    obtain rfl : i = n := by omega
    exact s_M_fold_26 _ _ _ _ ((brP_t (by rw [z32_lt] <;> omega)).mpr ⟨_, rfl, rfl, k I f hx⟩)
  | succ g ih =>
    intro i I hi f hx
    have hil : i < L.length := by omega
    obtain ⟨e, he⟩ : ∃ e, L[i]? = some e := ⟨_, List.getElem?_eq_getElem hil⟩
    have hm := List.mem_of_getElem? he
    have hEI := hE.st f.s.t
    have c0 : I 113 (i + 1) = z32 (eS e : Int) := hEI.2.2.1 i e he 0 (by omega)
    have c1 : I 114 (i + 1) = z32 (eV e : Int) := hEI.2.2.1 i e he 1 (by omega)
    have o := ho e hm
    have hv1 := hv e hm
    have hp : inB (z32 ((i + 1 : Nat) : Int)) 241 := inB_n (by omega) (by omega)
    have ex : foV C s v (L.take (i + 1)) = foE C s v (foV C s v (L.take i)) e := by rw [take_s he, foV_snoc]
    have o1 := o.1
    have o2 := o.2.1
    refine s_M_fold_26 _ _ _ _ ((brP_f (by rw [z32_lt] <;> omega)).mpr (tsP_i hp ?_))
    rw [ix_n (by omega), c0, z32_s]
    have skipE : ¬ (eS e = s ∧ eV e ≤ v) → Wp GG (d + 3) 194 26 [vR (some 106), vI (z32 (s : Int)), vI (z32 (n : Int)), vI (z32 (v : Int)), vI (z32 ((i + 1 + 1 : Nat) : Int))] [] (mm I D) (qV (mm I0 D) K) := fun q => by
      refine ih (i + 1) I (by omega) f ?_
      rw [ex]
      unfold foE
      rw [if_neg q]
      exact hx
    refine brP_i (fun q => skipE (fun c => q (by rw [c.1]))) (fun q => ?_)
    have q : z32 (eS e : Int) = z32 (s : Int) := Classical.not_not.mp q
    rw [z32_inj (by omega) (by omega) (by omega) (by omega)] at q
    have q : eS e = s := by omega
    refine tsP_i hp ?_
    rw [c1]
    refine brP_i (fun q2 => ?_) (fun q2 => skipE (fun c => q2 (by rw [z32_le] <;> omega)))
    rw [z32_le (by omega) (by omega) (by omega) (by omega)] at q2
    refine c_mread (d := d) hEI (hC.st f.s.t) he o (fun I2 f2 a2 b2 => tsP_i hp ?_)
    have c2 : I2 115 (i + 1) = z32 (eK e : Int) := (f2 _ _ (by omega)).trans (hEI.2.2.1 i e he 2 (by omega))
    rw [c2, a2]
    refine c_mchange o2 (hx.r f2) (fun I3 f3 x3 => ?_)
    have f3' : FoF I2 I3 := fun q k c => f3 q k (by omega)
    refine ih (i + 1) I3 (by omega) (f.tr (f2.fo.tr f3')) ?_
    rw [ex]
    unfold foE
    rw [if_pos ⟨q, by omega⟩]
    exact x3
theorem c_mfold {d : Nat} {I : IM} {D : DY} {K : IM → Prop} {C : CF} {L : List EV} {s v n : Nat} (hE : EVM I L) (hC : CSM I C) (ho : ∀ e ∈ L, okEv C e) (hv : ∀ e ∈ L, eV e ≤ 240) (hs : s < 8) (hvv : v ≤ 240) (hn : n ≤ L.length)
    (k : ∀ I2, FoF I I2 → Z4 I2 (foV C s v (L.take n)) → K I2) : CV (d + 3) 194 [vR (some 106), vI (z32 (s : Int)), vI (z32 (n : Int)), vI (z32 (v : Int))] (mm I D) K := by
  refine s_M_fold _ _ _ ?_
  have : ∀ (g i : Nat) (J : IM), i + g = 4 → FoF I J → (∀ w, w < i → J 121 w = 0) → Wp GG (d + 3) 194 3 [vR (some 106), vI (z32 (s : Int)), vI (z32 (n : Int)), vI (z32 (v : Int)), vI (z32 (i : Int))] [] (mm J D) (qV (mm I D) K) := by
    intro g
    induction g with
    | zero =>
      intro i J hi f h
      obtain rfl : i = 4 := by omega
      refine s_M_fold_3 _ _ _ _ ((brP_t (by decide)).mpr ?_)
      refine fold_loop (d := d) (I0 := I) (n := n) hE hC ho hv hs hvv hn k n 0 J (by omega) f (fun w hw => ?_)
      rw [h w hw]
      rcases (by omega : w = 0 ∨ w = 1 ∨ w = 2 ∨ w = 3) with rfl | rfl | rfl | rfl <;> rfl
    | succ g ih =>
      intro i J hi f h
      refine s_M_fold_3 _ _ _ _ ((brP_f (by show ¬ z32 4 ≤ _; rw [z32_le] <;> omega)).mpr (tsP_i (inB_n (by omega) (by omega)) ?_))
      rw [ix_n (by omega), z32_s]
      refine ih (i + 1) _ (by omega) (f.tr (fun q k c => up2_ne (by omega))) (fun w hw => ?_)
      by_cases q : w = i
      · rw [q, up2_eq]
      · rw [up2_nj q, h w (by omega)]
  exact this 4 0 I rfl FoF.rf (fun w hw => absurd hw (Nat.not_lt_zero _))
/-! what a fold up to a version is -/
theorem foV_st {C : CF} {s v : Nat} : ∀ {L : List EV}, (∀ e ∈ L, eS e = s → eV e ≤ v) → foV C s v L = stF C L s := by
  intro L h
  unfold foV stF
  have : ∀ (L : List EV) (x : S4), (∀ e ∈ L, eS e = s → eV e ≤ v) → L.foldl (foE C s v) x = L.foldl (stE C s) x := by
    intro L
    induction L with
    | nil => intro x _; rfl
    | cons e l ih =>
      intro x h
      show l.foldl _ (foE C s v x e) = l.foldl _ (stE C s x e)
      have e1 : foE C s v x e = stE C s x e := by
        unfold foE stE
        by_cases q : eS e = s
        · rw [if_pos ⟨q, h e List.mem_cons_self q⟩, if_pos q]
        · rw [if_neg (fun c => q c.1), if_neg q]
      rw [e1]
      exact ih _ (fun y hy => h y (List.mem_cons_of_mem _ hy))
  exact this L _ h
/-- the versions of a log -/
def VOL (L : List EV) : Prop := ∀ i e, L[i]? = some e → eV e = vrS (L.take (i + 1)) (eS e)
theorem vrS_tk (L : List EV) (i : Nat) (s : Nat) : vrS (L.take i) s ≤ vrS L s := by
  unfold vrS
  conv => rhs; rw [← List.take_append_drop i L]
  rw [List.filter_append, List.length_append]
  omega
theorem VOL.le {L : List EV} (h : VOL L) {e : EV} (he : e ∈ L) : eV e ≤ vrS L (eS e) ∧ 1 ≤ eV e := by
  obtain ⟨i, hi⟩ := List.getElem?_of_mem he
  rw [h i e hi]
  refine ⟨vrS_tk L (i + 1) (eS e), ?_⟩
  rw [take_s hi]
  unfold vrS
  rw [List.filter_append, List.length_append, List.filter_cons, if_pos (by simp)]
  simp
theorem VOL.b {L : List EV} (h : VOL L) (hn : L.length ≤ 240) : ∀ e ∈ L, eV e ≤ 240 := fun e he => Nat.le_trans (h.le he).1 (Nat.le_trans (List.length_filter_le _ _) hn)
theorem c_mfoldNow {d : Nat} {I : IM} {D : DY} {K : IM → Prop} {C : CF} {L : List EV} {s : Nat} (hE : EVM I L) (hC : CSM I C) (ho : ∀ e ∈ L, okEv C e) (hv : VOL L) (hs : s < 8)
    (k : ∀ I2, FoF I I2 → Z4 I2 (stF C L s) → K I2) : CV (d + 4) 193 [vR (some 106), vI (z32 (s : Int))] (mm I D) K := by
  have h240 := hE.2.1
  have hvl : vrS L s ≤ 240 := Nat.le_trans (List.length_filter_le _ _) h240
  refine s_M_foldNow _ (tsP_i (inB_n hs (by omega)) ?_)
  rw [ix_n (by omega), hE.1, hE.2.2.2 s hs]
  refine c_mfold (d := d) hE hC ho (hv.b h240) hs hvl (Nat.le_refl _) (fun I2 f2 x2 => qV_i (k I2 f2 ?_))
  rw [List.take_length] at x2
  rw [foV_st (fun e he q => q ▸ (hv.le he).1)] at x2
  exact x2
