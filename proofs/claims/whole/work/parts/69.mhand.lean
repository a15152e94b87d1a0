/-! The model handles an event. -/
def RWG (G : IM) (hr vr base : Nat) (r : Nat → Option Int32) : Prop := ∀ k, k < 9 → match r k with
  | none => G hr (base + k) = 0
  | some v => G hr (base + k) = 1 ∧ G vr (base + k) = v
theorem val1 (env : Nat → Int32) : valV env [1] = 1 := rfl
def SPJ (I : IM) (f : Nat) (x : PJ) : Prop := I 136 f = z32 (jF x : Int) ∧ I 137 f = jM x ∧ I 138 f = z32 (jY x : Int) ∧ CNM I (I 139 f) (54 + f) (jC x) ∧ jF x < 6 ∧ jY x < 3 ∧ cWF 3 (jC x)
theorem rowA {d : Nat} {I : IM} {D : DY} {Q : Option PV → PM → Prop} {f base key : Nat} {p2 p3 a : Int32} {r : Nat → Option Int32} {jf : Nat} (hf : f < 8) (hb : base + 9 ≤ 72) (hk : key < 9) (h136 : I 136 f = z32 (jf : Int)) (hjf : jf < 6) (h25 : I 106 25 = a) (hr : RWG I 141 142 base r)
    (k : ∀ I2, (∀ q k, ¬ ((q = 141 ∨ q = 142) ∧ base ≤ k ∧ k < base + 9) → I2 q k = I q k) → RWG I2 141 142 base (updF r key (some (rowV jf (r key) a))) → Q none (mm I2 D)) :
    Wp GG (d + 1) 242 91 [vR (some 106), vI (z32 (f : Int)), vI p2, vI p3, vR (some 141), vR (some 142), vI (z32 (base : Int)), vI (z32 ((base + key : Nat) : Int)), vT] [] (mm I D) Q := by
  have hl : inB (z32 ((base + key : Nat) : Int)) 72 := inB_n (by omega) (by omega)
  have h8 : inB (z32 (f : Int)) 8 := inB_n hf (by omega)
  have ixk : ixN (z32 ((base + key : Nat) : Int)) = base + key := ix_n (by omega)
  have ixf : ixN (z32 (f : Int)) = f := ix_n (by omega)
  have hrk := hr key hk
  -- what is, behind
  have fin2 : ∀ v, rowV jf (r key) a = v → Q none (mm (up2 (up2 I 141 (base + key) 1) 142 (base + key) v) D) := fun v hv => by
    refine k _ (fun q j c => by rw [up2_if, if_neg (by omega), up2_if, if_neg (by omega)]) (fun j hj => ?_)
    rw [hv]
    show match updF r key (some v) j with
      | none => _
      | some v => _
    by_cases q : j = key
    · have e : updF r key (some v) j = some v := if_pos q
      rw [e, q]
      exact ⟨by rw [up2_ne (by omega), up2_eq], up2_eq⟩
    · have e : updF r key (some v) j = r j := if_neg q
      rw [e]
      have := hr j hj
      cases hc : r j with
      | none =>
        rw [hc] at this
        show up2 (up2 I 141 (base + key) 1) 142 (base + key) v 141 (base + j) = 0
        rw [up2_ne (by omega), up2_nj (by omega)]
        exact this
      | some u =>
        rw [hc] at this
        exact ⟨by rw [up2_ne (by omega), up2_nj (by omega)]; exact this.1, by rw [up2_nj (by omega), up2_ne (by omega)]; exact this.2⟩
  have fin1 : ∀ u, r key = some u → rowV jf (r key) a = u → Q none (mm (up2 I 141 (base + key) 1) D) := fun u hu hv => by
    refine k _ (fun q j c => by rw [up2_if, if_neg (by omega)]) (fun j hj => ?_)
    rw [hv]
    show match updF r key (some u) j with
      | none => _
      | some v => _
    by_cases q : j = key
    · have e : updF r key (some u) j = some u := if_pos q
      rw [e, q]
      rw [hu] at hrk
      exact ⟨up2_eq, by rw [up2_ne (by omega)]; exact hrk.2⟩
    · have e : updF r key (some u) j = r j := if_neg q
      rw [e]
      have := hr j hj
      cases hc : r j with
      | none =>
        rw [hc] at this
        show up2 I 141 (base + key) 1 141 (base + j) = 0
        rw [up2_nj (by omega)]
        exact this
      | some u2 =>
        rw [hc] at this
        exact ⟨by rw [up2_nj (by omega)]; exact this.1, by rw [up2_ne (by omega)]; exact this.2⟩
  refine s_M_handleA_91 _ _ _ _ _ (tsP_i hl ?_)
  rw [ixk, ixf, h136, h25]
  cases hc : r key with
  | none =>
    rw [hc] at hrk fin2
    have hrk : I 141 (base + key) = 0 := hrk
    refine (brP_f (by rw [hrk]; decide)).mpr (tsP_i hl (tsP_i h8 ?_))
    rcases (by omega : jf = 0 ∨ jf = 1 ∨ jf = 2 ∨ jf = 3 ∨ jf = 4 ∨ jf = 5) with rfl | rfl | rfl | rfl | rfl | rfl
    · exact (brP_t (by decide)).mpr (tsP_i hl (fin2 _ rfl))
    · exact (brP_f (by decide)).mpr ((brP_t (by decide)).mpr (tsP_i hl (fin2 _ rfl)))
    · exact (brP_f (by decide)).mpr ((brP_f (by decide)).mpr ((brP_t (by decide)).mpr (tsP_i hl (fin2 _ rfl))))
    · exact (brP_f (by decide)).mpr ((brP_f (by decide)).mpr ((brP_f (by decide)).mpr ((brP_t (by decide)).mpr (tsP_i hl (fin2 _ rfl)))))
    · exact (brP_f (by decide)).mpr ((brP_f (by decide)).mpr ((brP_f (by decide)).mpr ((brP_f (by decide)).mpr ((brP_t (by decide)).mpr (tsP_i hl (fin2 _ rfl))))))
    · exact (brP_f (by decide)).mpr ((brP_f (by decide)).mpr ((brP_f (by decide)).mpr ((brP_f (by decide)).mpr ((brP_f (by decide)).mpr (tsP_i hl (fin2 _ rfl))))))
  | some u =>
    rw [hc] at hrk fin2 fin1
    refine (brP_t (by rw [hrk.1]; decide)).mpr (tsP_i hl (tsP_i h8 ?_))
    rw [hrk.2]
    rcases (by omega : jf = 0 ∨ jf = 1 ∨ jf = 2 ∨ jf = 3 ∨ jf = 4 ∨ jf = 5) with rfl | rfl | rfl | rfl | rfl | rfl
    · exact (brP_t (by decide)).mpr (tsP_i hl (tsP_i hl (fin2 _ rfl)))
    · exact (brP_f (by decide)).mpr ((brP_t (by decide)).mpr (tsP_i hl (tsP_i hl (fin2 _ rfl))))
    · refine (brP_f (by decide)).mpr ((brP_f (by decide)).mpr ((brP_t (by decide)).mpr (tsP_i hl ?_)))
      rw [e_max]
      exact tsP_i hl (fin2 _ rfl)
    · refine (brP_f (by decide)).mpr ((brP_f (by decide)).mpr ((brP_f (by decide)).mpr ((brP_t (by decide)).mpr (tsP_i hl ?_))))
      rw [e_min]
      exact tsP_i hl (fin2 _ rfl)
    · exact (brP_f (by decide)).mpr ((brP_f (by decide)).mpr ((brP_f (by decide)).mpr ((brP_f (by decide)).mpr ((brP_t (by decide)).mpr (fin1 u rfl rfl)))))
    · exact (brP_f (by decide)).mpr ((brP_f (by decide)).mpr ((brP_f (by decide)).mpr ((brP_f (by decide)).mpr ((brP_f (by decide)).mpr (tsP_i hl (fin2 _ rfl))))))
def HFA (base : Nat) (I I2 : IM) : Prop := ∀ q k, ¬ (q = 111 ∨ (q = 112 ∧ k < 3) ∨ (q = 106 ∧ (k = 25 ∨ k = 26)) ∨ ((q = 141 ∨ q = 142) ∧ base ≤ k ∧ k < base + 9)) → I2 q k = I q k
theorem HFA.rf {base : Nat} {I : IM} : HFA base I I := fun _ _ _ => rfl
theorem HFA.tr {base : Nat} {I I2 I3 : IM} (h : HFA base I I2) (h2 : HFA base I2 I3) : HFA base I I3 := fun q k e => (h2 q k e).trans (h q k e)
theorem RFm.hA {base : Nat} {I I2 : IM} (h : RFm I I2) : HFA base I I2 := fun q k e => h q k (by omega)
theorem c_mhandleA {d : Nat} {I : IM} {D : DY} {K : IM → Prop} {C : CF} {L : List EV} {i f base : Nat} {e : EV} {x : PJ} (hE : EVM I L) (hC : CSM I C) (he : L[i]? = some e) (ho : okEv C e) (hf : f < 8) (hb : base + 9 ≤ 72) (hx : SPJ I f x) (hr : RWG I 141 142 base (jR x))
    (k : ∀ I2, HFA base I I2 → RWG I2 141 142 base (jR (hdl x (eK e) (eS e) (rdE C e).1 (rdE C e).2)) → K I2) : CV (d + 4) 242 [vR (some 106), vI (z32 (f : Int)), vI (z32 ((54 + f : Nat) : Int)), vI (z32 ((i + 1 : Nat) : Int)), vR (some 141), vR (some 142), vI (z32 (base : Int))] (mm I D) K := by
  obtain ⟨x1, x2, x3, x4, x5, x6, x7⟩ := id hx
  have hi := lt_of_get he
  have h240 := hE.2.1
  obtain ⟨o1, o2, o3, o4⟩ := id ho
  have h8 : inB (z32 (f : Int)) 8 := inB_n hf (by omega)
  have hp : inB (z32 ((i + 1 : Nat) : Int)) 241 := inB_n (by omega) (by omega)
  have ixf : ixN (z32 (f : Int)) = f := ix_n (by omega)
  have ixp : ixN (z32 ((i + 1 : Nat) : Int)) = i + 1 := ix_n (by omega)
  have c2 : I 115 (i + 1) = z32 (eK e : Int) := hE.2.2.1 i e he 2 (by omega)
  refine s_M_handleA _ _ _ _ (tsP_i h8 (tsP_i hp ?_))
  rw [ixf, ixp, x2, c2]
  refine brP_i (fun q => ?_) (fun q => qV_i ?_)
  rotate_left
  · have e1 : hdl x (eK e) (eS e) (rdE C e).1 (rdE C e).2 = x := if_pos (Classical.not_not.mp q)
    rw [e1] at k
    exact k I HFA.rf hr
  -- read, given
  refine s_M_giveRead _ (c_mread (d := d) hE hC he ho (fun I1 f1 a1 b1 => tsP_i hp ?_))
  have c0 : I1 113 (i + 1) = z32 (eS e : Int) := (f1 _ _ (by omega)).trans (hE.2.2.1 i e he 0 (by omega))
  rw [ixp, c0, a1, b1]
  generalize hJ : up2 (up2 (up2 I1 112 0 (rdE C e).1) 112 1 (rdE C e).2) 112 2 (z32 (eS e : Int)) = J
  have fJ : RFm I J := hJ ▸ f1.tr ((RFm.up (by omega)).tr ((RFm.up (by omega)).tr (RFm.up (by omega))))
  have vJ : ∀ q, q < 3 → J 112 q = env3 (rdE C e).1 (rdE C e).2 (z32 (eS e : Int)) q := fun q hq => by
    rw [← hJ]
    rcases (by omega : q = 0 ∨ q = 1 ∨ q = 2) with rfl | rfl | rfl
    · rw [up2_nj (by omega), up2_nj (by omega), up2_eq]; rfl
    · rw [up2_nj (by omega), up2_eq]; rfl
    · rw [up2_eq]; rfl
  refine qV_i (tsP_i h8 ?_)
  rw [fJ 139 f (by omega)]
  -- the row's change
  have go : ∀ I2, RFm I I2 → valV (env3 (rdE C e).1 (rdE C e).2 (z32 (eS e : Int))) (jC x) ≠ 0 → Wp GG (d + 4) 242 43 [vR (some 106), vI (z32 (f : Int)), vI (z32 ((54 + f : Nat) : Int)), vI (z32 ((i + 1 : Nat) : Int)), vR (some 141), vR (some 142), vI (z32 (base : Int)), vT, vT] [] (mm I2 D) (qV (mm I D) K) := fun I2 f2 hc => by
    have eh : hdl x (eK e) (eS e) (rdE C e).1 (rdE C e).2 = setJ x (keyV x (eK e) (eS e)) (rowV (jF x) (jR x (keyV x (eK e) (eS e))) (rdE C e).1) := (if_neg q).trans (if_neg hc)
    rw [eh] at k
    refine s_M_handleA_43 _ _ _ _ (c_mread (d := d + 1) (hE.st f2.s.t) (hC.st f2.s.t) he ho (fun I3 f3 a3 b3 => tsP_i h8 ?_))
    have f23 := f2.tr f3
    have fin : ∀ key, key < 9 → keyV x (eK e) (eS e) = key → Wp GG (d + 4) 242 91 [vR (some 106), vI (z32 (f : Int)), vI (z32 ((54 + f : Nat) : Int)), vI (z32 ((i + 1 : Nat) : Int)), vR (some 141), vR (some 142), vI (z32 (base : Int)), vI (z32 ((base + key : Nat) : Int)), vT] [] (mm I3 D) (qV (mm I D) K) := fun key hkey hkv => by
      rw [hkv] at k
      refine rowA (d := d + 3) (r := jR x) (jf := jF x) hf hb hkey ((f23 _ _ (by omega)).trans x1) x5 a3 (fun j hj => ?_) (fun I4 f4 r4 => ⟨_, rfl, rfl, k I4 (fun q k c => (f4 q k (by omega)).trans (f23 q k (by omega))) r4⟩)
      have := hr j hj
      rw [f23 141 _ (by omega), f23 142 _ (by omega)]
      exact this
    have e0 : I3 113 (i + 1) = z32 (eS e : Int) := (f23 _ _ (by omega)).trans (hE.2.2.1 i e he 0 (by omega))
    have e2 : I3 115 (i + 1) = z32 (eK e : Int) := (f23 _ _ (by omega)).trans c2
    rw [ixf, ixp, f23 138 f (by omega), x3, e0, e2, addn, addn]
    have hy := x6
    refine brP_i (fun w => tsP_i h8 (brP_i (fun w2 => ?_) (fun w2 => tsP_i hp ?_))) (fun w => tsP_i hp ?_)
    · rw [show z32 (base : Int) + 0 = z32 ((base + 0 : Nat) : Int) from (z32_add _ 0).trans (by congr 1)]
      refine fin 0 (by omega) ?_
      unfold keyV
      rw [if_neg (fun c => w (by rw [c]; rfl)), if_neg (fun c => w2 (by rw [c]; rfl))]
    · have w2 : z32 (jY x : Int) = z32 1 := Classical.not_not.mp w2
      rw [z32_inj (by omega) (by omega) (by omega) (by omega)] at w2
      refine fin (eK e) o2 ?_
      unfold keyV
      rw [if_neg (by omega), if_pos (by omega)]
    · have w : z32 (jY x : Int) = z32 0 := Classical.not_not.mp w
      rw [z32_inj (by omega) (by omega) (by omega) (by omega)] at w
      refine fin (eS e) (by omega) ?_
      unfold keyV
      rw [if_pos (by omega)]
  refine brP_i (fun c => go J fJ ?_) (fun c => ?_)
  · rcases x4 with x4 | x4
    · rw [x4.2, val1]
      decide
    · exact absurd x4.1 c
  · have c : I 139 f = 1 := Classical.not_not.mp c
    have hF : FMc J (54 + f) (encV (jC x)) := by
      rcases x4 with x4 | x4
      · rw [x4.1] at c
        exact absurd c (by decide)
      · exact x4.2.st fJ.s.t (by omega)
    refine c_worked (d := d + 2) (env := env3 (rdE C e).1 (rdE C e).2 (z32 (eS e : Int))) (nv := 3) (by omega) (by omega) vJ x7 hF (fun I2 f2 => ?_)
    have f2' := fJ.tr f2.r
    refine brP_i (fun c2 => go I2 f2' c2) (fun c2 => qV_i ?_)
    have e1 : hdl x (eK e) (eS e) (rdE C e).1 (rdE C e).2 = x := (if_neg q).trans (if_pos (Classical.not_not.mp c2))
    rw [e1] at k
    refine k I2 f2'.hA (fun j hj => ?_)
    have := hr j hj
    rw [f2' 141 _ (by omega), f2' 142 _ (by omega)]
    exact this
theorem rowB {d : Nat} {I : IM} {D : DY} {Q : Option PV → PM → Prop} {f base key : Nat} {p2 p3 a : Int32} {r : Nat → Option Int32} {jf : Nat} (hf : f < 8) (hb : base + 9 ≤ 9) (hk : key < 9) (h136 : I 136 f = z32 (jf : Int)) (hjf : jf < 6) (h25 : I 106 25 = a) (hr : RWG I 143 144 base r)
    (k : ∀ I2, (∀ q k, ¬ ((q = 143 ∨ q = 144) ∧ base ≤ k ∧ k < base + 9) → I2 q k = I q k) → RWG I2 143 144 base (updF r key (some (rowV jf (r key) a))) → Q none (mm I2 D)) :
    Wp GG (d + 1) 242 91 [vR (some 106), vI (z32 (f : Int)), vI p2, vI p3, vR (some 143), vR (some 144), vI (z32 (base : Int)), vI (z32 ((base + key : Nat) : Int)), vT] [] (mm I D) Q := by
  have hl : inB (z32 ((base + key : Nat) : Int)) 9 := inB_n (by omega) (by omega)
  have h8 : inB (z32 (f : Int)) 8 := inB_n hf (by omega)
  have ixk : ixN (z32 ((base + key : Nat) : Int)) = base + key := ix_n (by omega)
  have ixf : ixN (z32 (f : Int)) = f := ix_n (by omega)
  have hrk := hr key hk
  -- what is, behind
  have fin2 : ∀ v, rowV jf (r key) a = v → Q none (mm (up2 (up2 I 143 (base + key) 1) 144 (base + key) v) D) := fun v hv => by
    refine k _ (fun q j c => by rw [up2_if, if_neg (by omega), up2_if, if_neg (by omega)]) (fun j hj => ?_)
    rw [hv]
    show match updF r key (some v) j with
      | none => _
      | some v => _
    by_cases q : j = key
    · have e : updF r key (some v) j = some v := if_pos q
      rw [e, q]
      exact ⟨by rw [up2_ne (by omega), up2_eq], up2_eq⟩
    · have e : updF r key (some v) j = r j := if_neg q
      rw [e]
      have := hr j hj
      cases hc : r j with
      | none =>
        rw [hc] at this
        show up2 (up2 I 143 (base + key) 1) 144 (base + key) v 143 (base + j) = 0
        rw [up2_ne (by omega), up2_nj (by omega)]
        exact this
      | some u =>
        rw [hc] at this
        exact ⟨by rw [up2_ne (by omega), up2_nj (by omega)]; exact this.1, by rw [up2_nj (by omega), up2_ne (by omega)]; exact this.2⟩
  have fin1 : ∀ u, r key = some u → rowV jf (r key) a = u → Q none (mm (up2 I 143 (base + key) 1) D) := fun u hu hv => by
    refine k _ (fun q j c => by rw [up2_if, if_neg (by omega)]) (fun j hj => ?_)
    rw [hv]
    show match updF r key (some u) j with
      | none => _
      | some v => _
    by_cases q : j = key
    · have e : updF r key (some u) j = some u := if_pos q
      rw [e, q]
      rw [hu] at hrk
      exact ⟨up2_eq, by rw [up2_ne (by omega)]; exact hrk.2⟩
    · have e : updF r key (some u) j = r j := if_neg q
      rw [e]
      have := hr j hj
      cases hc : r j with
      | none =>
        rw [hc] at this
        show up2 I 143 (base + key) 1 143 (base + j) = 0
        rw [up2_nj (by omega)]
        exact this
      | some u2 =>
        rw [hc] at this
        exact ⟨by rw [up2_nj (by omega)]; exact this.1, by rw [up2_ne (by omega)]; exact this.2⟩
  refine s_M_handleB_91 _ _ _ _ _ (tsP_i hl ?_)
  rw [ixk, ixf, h136, h25]
  cases hc : r key with
  | none =>
    rw [hc] at hrk fin2
    have hrk : I 143 (base + key) = 0 := hrk
    refine (brP_f (by rw [hrk]; decide)).mpr (tsP_i hl (tsP_i h8 ?_))
    rcases (by omega : jf = 0 ∨ jf = 1 ∨ jf = 2 ∨ jf = 3 ∨ jf = 4 ∨ jf = 5) with rfl | rfl | rfl | rfl | rfl | rfl
    · exact (brP_t (by decide)).mpr (tsP_i hl (fin2 _ rfl))
    · exact (brP_f (by decide)).mpr ((brP_t (by decide)).mpr (tsP_i hl (fin2 _ rfl)))
    · exact (brP_f (by decide)).mpr ((brP_f (by decide)).mpr ((brP_t (by decide)).mpr (tsP_i hl (fin2 _ rfl))))
    · exact (brP_f (by decide)).mpr ((brP_f (by decide)).mpr ((brP_f (by decide)).mpr ((brP_t (by decide)).mpr (tsP_i hl (fin2 _ rfl)))))
    · exact (brP_f (by decide)).mpr ((brP_f (by decide)).mpr ((brP_f (by decide)).mpr ((brP_f (by decide)).mpr ((brP_t (by decide)).mpr (tsP_i hl (fin2 _ rfl))))))
    · exact (brP_f (by decide)).mpr ((brP_f (by decide)).mpr ((brP_f (by decide)).mpr ((brP_f (by decide)).mpr ((brP_f (by decide)).mpr (tsP_i hl (fin2 _ rfl))))))
  | some u =>
    rw [hc] at hrk fin2 fin1
    refine (brP_t (by rw [hrk.1]; decide)).mpr (tsP_i hl (tsP_i h8 ?_))
    rw [hrk.2]
    rcases (by omega : jf = 0 ∨ jf = 1 ∨ jf = 2 ∨ jf = 3 ∨ jf = 4 ∨ jf = 5) with rfl | rfl | rfl | rfl | rfl | rfl
    · exact (brP_t (by decide)).mpr (tsP_i hl (tsP_i hl (fin2 _ rfl)))
    · exact (brP_f (by decide)).mpr ((brP_t (by decide)).mpr (tsP_i hl (tsP_i hl (fin2 _ rfl))))
    · refine (brP_f (by decide)).mpr ((brP_f (by decide)).mpr ((brP_t (by decide)).mpr (tsP_i hl ?_)))
      rw [e_max]
      exact tsP_i hl (fin2 _ rfl)
    · refine (brP_f (by decide)).mpr ((brP_f (by decide)).mpr ((brP_f (by decide)).mpr ((brP_t (by decide)).mpr (tsP_i hl ?_))))
      rw [e_min]
      exact tsP_i hl (fin2 _ rfl)
    · exact (brP_f (by decide)).mpr ((brP_f (by decide)).mpr ((brP_f (by decide)).mpr ((brP_f (by decide)).mpr ((brP_t (by decide)).mpr (fin1 u rfl rfl)))))
    · exact (brP_f (by decide)).mpr ((brP_f (by decide)).mpr ((brP_f (by decide)).mpr ((brP_f (by decide)).mpr ((brP_f (by decide)).mpr (tsP_i hl (fin2 _ rfl))))))
def HFB (base : Nat) (I I2 : IM) : Prop := ∀ q k, ¬ (q = 111 ∨ (q = 112 ∧ k < 3) ∨ (q = 106 ∧ (k = 25 ∨ k = 26)) ∨ ((q = 143 ∨ q = 144) ∧ base ≤ k ∧ k < base + 9)) → I2 q k = I q k
theorem HFB.rf {base : Nat} {I : IM} : HFB base I I := fun _ _ _ => rfl
theorem HFB.tr {base : Nat} {I I2 I3 : IM} (h : HFB base I I2) (h2 : HFB base I2 I3) : HFB base I I3 := fun q k e => (h2 q k e).trans (h q k e)
theorem RFm.hB {base : Nat} {I I2 : IM} (h : RFm I I2) : HFB base I I2 := fun q k e => h q k (by omega)
theorem c_mhandleB {d : Nat} {I : IM} {D : DY} {K : IM → Prop} {C : CF} {L : List EV} {i f base : Nat} {e : EV} {x : PJ} (hE : EVM I L) (hC : CSM I C) (he : L[i]? = some e) (ho : okEv C e) (hf : f < 8) (hb : base + 9 ≤ 9) (hx : SPJ I f x) (hr : RWG I 143 144 base (jR x))
    (k : ∀ I2, HFB base I I2 → RWG I2 143 144 base (jR (hdl x (eK e) (eS e) (rdE C e).1 (rdE C e).2)) → K I2) : CV (d + 4) 242 [vR (some 106), vI (z32 (f : Int)), vI (z32 ((54 + f : Nat) : Int)), vI (z32 ((i + 1 : Nat) : Int)), vR (some 143), vR (some 144), vI (z32 (base : Int))] (mm I D) K := by
  obtain ⟨x1, x2, x3, x4, x5, x6, x7⟩ := id hx
  have hi := lt_of_get he
  have h240 := hE.2.1
  obtain ⟨o1, o2, o3, o4⟩ := id ho
  have h8 : inB (z32 (f : Int)) 8 := inB_n hf (by omega)
  have hp : inB (z32 ((i + 1 : Nat) : Int)) 241 := inB_n (by omega) (by omega)
  have ixf : ixN (z32 (f : Int)) = f := ix_n (by omega)
  have ixp : ixN (z32 ((i + 1 : Nat) : Int)) = i + 1 := ix_n (by omega)
  have c2 : I 115 (i + 1) = z32 (eK e : Int) := hE.2.2.1 i e he 2 (by omega)
  refine s_M_handleB _ _ _ _ (tsP_i h8 (tsP_i hp ?_))
  rw [ixf, ixp, x2, c2]
  refine brP_i (fun q => ?_) (fun q => qV_i ?_)
  rotate_left
  · have e1 : hdl x (eK e) (eS e) (rdE C e).1 (rdE C e).2 = x := if_pos (Classical.not_not.mp q)
    rw [e1] at k
    exact k I HFB.rf hr
  -- read, given
  refine s_M_giveRead _ (c_mread (d := d) hE hC he ho (fun I1 f1 a1 b1 => tsP_i hp ?_))
  have c0 : I1 113 (i + 1) = z32 (eS e : Int) := (f1 _ _ (by omega)).trans (hE.2.2.1 i e he 0 (by omega))
  rw [ixp, c0, a1, b1]
  generalize hJ : up2 (up2 (up2 I1 112 0 (rdE C e).1) 112 1 (rdE C e).2) 112 2 (z32 (eS e : Int)) = J
  have fJ : RFm I J := hJ ▸ f1.tr ((RFm.up (by omega)).tr ((RFm.up (by omega)).tr (RFm.up (by omega))))
  have vJ : ∀ q, q < 3 → J 112 q = env3 (rdE C e).1 (rdE C e).2 (z32 (eS e : Int)) q := fun q hq => by
    rw [← hJ]
    rcases (by omega : q = 0 ∨ q = 1 ∨ q = 2) with rfl | rfl | rfl
    · rw [up2_nj (by omega), up2_nj (by omega), up2_eq]; rfl
    · rw [up2_nj (by omega), up2_eq]; rfl
    · rw [up2_eq]; rfl
  refine qV_i (tsP_i h8 ?_)
  rw [fJ 139 f (by omega)]
  -- the row's change
  have go : ∀ I2, RFm I I2 → valV (env3 (rdE C e).1 (rdE C e).2 (z32 (eS e : Int))) (jC x) ≠ 0 → Wp GG (d + 4) 242 43 [vR (some 106), vI (z32 (f : Int)), vI (z32 ((54 + f : Nat) : Int)), vI (z32 ((i + 1 : Nat) : Int)), vR (some 143), vR (some 144), vI (z32 (base : Int)), vT, vT] [] (mm I2 D) (qV (mm I D) K) := fun I2 f2 hc => by
    have eh : hdl x (eK e) (eS e) (rdE C e).1 (rdE C e).2 = setJ x (keyV x (eK e) (eS e)) (rowV (jF x) (jR x (keyV x (eK e) (eS e))) (rdE C e).1) := (if_neg q).trans (if_neg hc)
    rw [eh] at k
    refine s_M_handleB_43 _ _ _ _ (c_mread (d := d + 1) (hE.st f2.s.t) (hC.st f2.s.t) he ho (fun I3 f3 a3 b3 => tsP_i h8 ?_))
    have f23 := f2.tr f3
    have fin : ∀ key, key < 9 → keyV x (eK e) (eS e) = key → Wp GG (d + 4) 242 91 [vR (some 106), vI (z32 (f : Int)), vI (z32 ((54 + f : Nat) : Int)), vI (z32 ((i + 1 : Nat) : Int)), vR (some 143), vR (some 144), vI (z32 (base : Int)), vI (z32 ((base + key : Nat) : Int)), vT] [] (mm I3 D) (qV (mm I D) K) := fun key hkey hkv => by
      rw [hkv] at k
      refine rowB (d := d + 3) (r := jR x) (jf := jF x) hf hb hkey ((f23 _ _ (by omega)).trans x1) x5 a3 (fun j hj => ?_) (fun I4 f4 r4 => ⟨_, rfl, rfl, k I4 (fun q k c => (f4 q k (by omega)).trans (f23 q k (by omega))) r4⟩)
      have := hr j hj
      rw [f23 143 _ (by omega), f23 144 _ (by omega)]
      exact this
    have e0 : I3 113 (i + 1) = z32 (eS e : Int) := (f23 _ _ (by omega)).trans (hE.2.2.1 i e he 0 (by omega))
    have e2 : I3 115 (i + 1) = z32 (eK e : Int) := (f23 _ _ (by omega)).trans c2
    rw [ixf, ixp, f23 138 f (by omega), x3, e0, e2, addn, addn]
    have hy := x6
    refine brP_i (fun w => tsP_i h8 (brP_i (fun w2 => ?_) (fun w2 => tsP_i hp ?_))) (fun w => tsP_i hp ?_)
    · rw [show z32 (base : Int) + 0 = z32 ((base + 0 : Nat) : Int) from (z32_add _ 0).trans (by congr 1)]
      refine fin 0 (by omega) ?_
      unfold keyV
      rw [if_neg (fun c => w (by rw [c]; rfl)), if_neg (fun c => w2 (by rw [c]; rfl))]
    · have w2 : z32 (jY x : Int) = z32 1 := Classical.not_not.mp w2
      rw [z32_inj (by omega) (by omega) (by omega) (by omega)] at w2
      refine fin (eK e) o2 ?_
      unfold keyV
      rw [if_neg (by omega), if_pos (by omega)]
    · have w : z32 (jY x : Int) = z32 0 := Classical.not_not.mp w
      rw [z32_inj (by omega) (by omega) (by omega) (by omega)] at w
      refine fin (eS e) (by omega) ?_
      unfold keyV
      rw [if_pos (by omega)]
  refine brP_i (fun c => go J fJ ?_) (fun c => ?_)
  · rcases x4 with x4 | x4
    · rw [x4.2, val1]
      decide
    · exact absurd x4.1 c
  · have c : I 139 f = 1 := Classical.not_not.mp c
    have hF : FMc J (54 + f) (encV (jC x)) := by
      rcases x4 with x4 | x4
      · rw [x4.1] at c
        exact absurd c (by decide)
      · exact x4.2.st fJ.s.t (by omega)
    refine c_worked (d := d + 2) (env := env3 (rdE C e).1 (rdE C e).2 (z32 (eS e : Int))) (nv := 3) (by omega) (by omega) vJ x7 hF (fun I2 f2 => ?_)
    have f2' := fJ.tr f2.r
    refine brP_i (fun c2 => go I2 f2' c2) (fun c2 => qV_i ?_)
    have e1 : hdl x (eK e) (eS e) (rdE C e).1 (rdE C e).2 = x := (if_neg q).trans (if_pos (Classical.not_not.mp c2))
    rw [e1] at k
    refine k I2 f2'.hB (fun j hj => ?_)
    have := hr j hj
    rw [f2' 143 _ (by omega), f2' 144 _ (by omega)]
    exact this
