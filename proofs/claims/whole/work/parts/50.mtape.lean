/-! The model's tape. -/
theorem e_in {d : Nat} {I : IM} {D : DY} {K : Int32 → IM → Prop} (v lo hi : Int32) : CI d 169 [vI v, vI lo, vI hi] (mm I D) K ↔ K (b32 (lo ≤ v ∧ v ≤ hi)) I := by
  refine CI_iff (s_M_in _ _ _ ?_)
  refine brP_i (fun h => qI_i ⟨(b32_f (fun q => absurd q.1 (Int32.not_le.mpr h))).symm, rfl⟩) (fun h => brP_i (fun h2 => qI_i ⟨(b32_f (fun q => absurd q.2 (Int32.not_le.mpr h2))).symm, rfl⟩) (fun h2 => qI_i ⟨(b32_t ⟨Int32.not_lt.mp h, Int32.not_lt.mp h2⟩).symm, rfl⟩))
def wdsL : List Tx := kindW ++ verbW ++ foldW ++ keyW ++ [[111, 102], [98, 121], [105, 102], [111, 110], [100, 111], [116, 111], [97, 108, 108]]
def wdT : Tx := wdsL.flatMap (fun w => w ++ [32])
def plW (w : Nat) : Nat := ((wdsL.take w).map (fun x => x.length + 1)).foldl (· + ·) 0
def pwF : Nat → Nat → Nat → Nat
  | 0, k, _ => k
  | _ + 1, k, 0 => k
  | f + 1, k, l + 1 => pwF f (k + 1) (if wdT.getD k 0 = 32 then l else l + 1)
def pwO : Nat → Nat → Nat → Bool
  | 0, _, _ => false
  | _ + 1, _, 0 => true
  | f + 1, k, l + 1 => Nat.blt k 163 && pwO f (k + 1) (if wdT.getD k 0 = 32 then l else l + 1)
theorem plW_ok : ∀ w : Nat, w < 33 → pwO 200 0 w = true ∧ pwF 200 0 w = plW w ∧ wdT.drop (plW w) = wdsL.getD w [] ++ 32 :: wdT.drop (plW (w + 1)) ∧ plW w + (wdsL.getD w []).length < 163 := by decide +kernel
theorem wdT_len : wdT.length = 163 := by decide +kernel
def WRD (I : IM) : Prop := ∀ k, k < 163 → I 108 k = wdT.getD k 0
theorem place_loop {d : Nat} {I : IM} {D : DY} {p1 : Int32} (h : WRD I) : ∀ (f k l : Nat), l ≤ 100 → pwO f k l = true → Wp GG d 174 4 [vR (some 106), vI p1, vI (z32 (k : Int)), vI (z32 (l : Int))] [] (mm I D) (qI (mm I D) (fun x I2 => x = z32 (pwF f k l : Int) ∧ I2 = I)) := by
  intro f
  induction f with
  | zero => intro k l _ h; cases h
  | succ f ih =>
    intro k l hl ho
    cases l with
    | zero => exact s_M_placeOfWord_4 _ _ _ ((brP_t (by decide)).mpr (qI_i ⟨rfl, rfl⟩))
    | succ l =>
      have ho : (Nat.blt k 163 && pwO f (k + 1) (if wdT.getD k 0 = 32 then l else l + 1)) = true := ho
      rw [Bool.and_eq_true] at ho
      have hk : k < 163 := Nat.le_of_ble_eq_true ho.1
      refine s_M_placeOfWord_4 _ _ _ ((brP_f (by rw [z32_0, z32_le] <;> omega)).mpr (tsP_i (inB_n hk (by omega)) ?_))
      rw [ix_n (by omega), h k hk, z32_s]
      have ef : pwF (f + 1) k (l + 1) = pwF f (k + 1) (if wdT.getD k 0 = 32 then l else l + 1) := rfl
      rw [ef]
      refine brP_i (fun q => ?_) (fun q => ?_)
      · have ho2 := ho.2
        rw [if_neg q] at ho2 ⊢
        exact ih (k + 1) (l + 1) hl ho2
      · have q := Classical.not_not.mp q
        have ho2 := ho.2
        rw [if_pos q] at ho2 ⊢
        have e : z32 ((l + 1 : Nat) : Int) + -1 = z32 (l : Int) := by
          show _ + z32 (-1) = _
          rw [z32_add]
          congr 1
          omega
        rw [e]
        exact ih (k + 1) l (by omega) ho2
theorem e_place {d : Nat} {I : IM} {D : DY} {K : Int32 → IM → Prop} {w : Nat} (h : WRD I) (hw : w < 33) : CI d 174 [vR (some 106), vI (z32 (w : Int))] (mm I D) K ↔ K (z32 (plW w : Int)) I := by
  obtain ⟨h1, h2, -⟩ := plW_ok w hw
  have := place_loop (d := d) (D := D) (p1 := z32 (w : Int)) h 200 0 w (by omega) h1
  rw [h2] at this
  exact CI_iff (s_M_placeOfWord _ this)
/-- slots hold no more than they may -/
def SLB (I : IM) : Prop := ∀ s, s < 160 → ∃ n : Nat, n ≤ 245 ∧ I 110 s = z32 (n : Int)
def TPm (I : IM) (T : Tx) : Prop := I 106 2 = z32 (T.length : Int) ∧ T.length ≤ 160 ∧ (∀ k, k < T.length → I 107 k = T.getD k 0) ∧ (∀ x ∈ T, 1 ≤ x.toInt ∧ x.toInt ≤ 255) ∧ SLB I
/-- a text that has been read so far; a: the place -/
def MP (I : IM) (T : Tx) (r : PS) : Prop := TPm I T ∧ (∃ a : Nat, a ≤ 160 ∧ I 106 3 = z32 (a : Int)) ∧ match r with
  | .inl s => sfx s T ∧ I 106 3 = z32 ((T.length - s.length : Nat) : Int) ∧ I 106 4 = -1
  | .inr m => m ≤ T.length ∧ I 106 4 = z32 ((T.length - m : Nat) : Int)
/-- what reading words, signs, numbers may change -/
def NFr (I I2 : IM) : Prop := ∀ q k, ¬ (q = 106 ∧ 3 ≤ k ∧ k ≤ 5) → I2 q k = I q k
theorem NFr.rf {I : IM} : NFr I I := fun _ _ _ => rfl
theorem NFr.tr {I I2 I3 : IM} (h : NFr I I2) (h2 : NFr I2 I3) : NFr I I3 := fun q k e => (h2 q k e).trans (h q k e)
theorem NFr.up {I : IM} {k : Nat} {v : Int32} (hk : 3 ≤ k ∧ k ≤ 5) : NFr I (up2 I 106 k v) := fun q j h => if_neg (fun e => h ⟨e.1, by omega⟩)
theorem TPm.fb {I I2 : IM} {T : Tx} (h : TPm I T) (h1 : I2 106 2 = I 106 2) (h2 : ∀ k, I2 107 k = I 107 k) (h3 : SLB I2) : TPm I2 T := ⟨h1.trans h.1, h.2.1, fun k hk => (h2 k).trans (h.2.2.1 k hk), h.2.2.2.1, h3⟩
theorem TPm.fr {I I2 : IM} {T : Tx} (h : TPm I T) (h1 : I2 106 2 = I 106 2) (h2 : ∀ k, ∀ {q : Nat} {_hq : q = 107 ∨ q = 110}, I2 q k = I q k) : TPm I2 T := h.fb h1 (fun k => h2 k (_hq := Or.inl rfl)) (fun s hs => by
  obtain ⟨n, a, b⟩ := h.2.2.2.2 s hs
  exact ⟨n, a, (h2 s (_hq := Or.inr rfl)).trans b⟩)
theorem TPm.nf {I I2 : IM} {T : Tx} (h : TPm I T) (hf : NFr I I2) : TPm I2 T := h.fr (hf _ _ (by omega)) (fun k => hf _ _ (by omega))
theorem WRD.fr {I I2 : IM} (h : WRD I) (hf : ∀ k, I2 108 k = I 108 k) : WRD I2 := fun k hk => (hf k).trans (h k hk)
theorem WRD.nf {I I2 : IM} (h : WRD I) (hf : NFr I I2) : WRD I2 := h.fr (fun k => hf _ _ (by omega))
theorem MP.fl {I : IM} {T : Tx} {r : PS} (h : MP I T r) : (I 106 4 < 0 ↔ ∃ s, r = .inl s) := by
  obtain ⟨⟨t1, t2, t3, t4⟩, h2, h3⟩ := h
  rcases r with s | m
  · have h3 : sfx s T ∧ I 106 3 = z32 ((T.length - s.length : Nat) : Int) ∧ I 106 4 = -1 := h3
    rw [h3.2.2]
    exact ⟨fun _ => ⟨s, rfl⟩, fun _ => by decide⟩
  · have h3 : m ≤ T.length ∧ I 106 4 = z32 ((T.length - m : Nat) : Int) := h3
    rw [h3.2, z32_0, z32_lt (by omega) (by omega) (by omega) (by omega)]
    exact ⟨fun c => by omega, fun ⟨s, e⟩ => by cases e⟩
/-- what stands at the place; -1: nothing -/
def hrV (s : Tx) : Int32 := s.headD (-1)
theorem MP.in {I : IM} {T s : Tx} (h : MP I T (.inl s)) : sfx s T ∧ I 106 3 = z32 ((T.length - s.length : Nat) : Int) ∧ I 106 4 = -1 := h.2.2
theorem e_here {d : Nat} {I : IM} {D : DY} {K : Int32 → IM → Prop} {T s : Tx} (h : MP I T (.inl s)) : CI d 177 [vR (some 106)] (mm I D) K ↔ K (hrV s) I := by
  obtain ⟨g1, g2, g3⟩ := h.in
  obtain ⟨t1, t2, t3, t4⟩ := h.1
  have hl := g1.1
  refine CI_iff (s_M_here ?_)
  rw [t1, g2]
  cases s with
  | nil =>
    have h0 : ([] : Tx).length = 0 := rfl
    exact (brP_t (by rw [z32_le] <;> omega)).mpr (qI_i ⟨rfl, rfl⟩)
  | cons x t =>
    rw [List.length_cons] at hl ⊢
    refine (brP_f (by rw [z32_le] <;> omega)).mpr (tsP_i (inB_n (by omega) (by omega)) (qI_i ⟨?_, rfl⟩))
    rw [ix_n (by omega), t3 _ (by omega), g1.head]
    rfl
theorem c_wrong {d : Nat} {I : IM} {D : DY} {K : IM → Prop} {T s : Tx} {w : Int32} {m : Nat} (h : MP I T (.inl s)) (hw : w = z32 ((T.length - m : Nat) : Int)) (hm : m ≤ T.length) (k : ∀ I2, NFr I I2 → MP I2 T (.inr m) → I2 106 3 = I 106 3 → K I2) : CV d 175 [vR (some 106), vI w] (mm I D) K := by
  obtain ⟨g1, g2, g3⟩ := h.in
  obtain ⟨ht, ⟨a, a1, a2⟩, -⟩ := id h
  subst hw
  refine s_M_wrong _ ?_
  rw [g3]
  refine (brP_f (by decide)).mpr (qV_i (k _ (NFr.up (by omega)) ⟨ht.nf (NFr.up (by omega)), ⟨a, a1, (up2_nj (by omega)).trans a2⟩, hm, up2_eq⟩ (up2_nj (by omega))))
theorem MP.next {I : IM} {T t : Tx} {x : Int32} (h : MP I T (.inl (x :: t))) : MP (up2 I 106 3 (I 106 3 + 1)) T (.inl t) ∧ I 106 3 + 1 = z32 ((T.length - t.length : Nat) : Int) := by
  obtain ⟨g1, g2, g3⟩ := h.in
  have hl := g1.1
  have h160 := h.1.2.1
  rw [List.length_cons] at hl g2
  have e : I 106 3 + 1 = z32 ((T.length - t.length : Nat) : Int) := by
    rw [g2, z32_s]
    congr 2
    omega
  rw [e]
  exact ⟨⟨h.1.nf (NFr.up (by omega)), ⟨_, by omega, up2_eq⟩, g1.tail, up2_eq, (up2_nj (by omega)).trans g3⟩, rfl⟩
theorem m_take {d : Nat} {I : IM} {D : DY} {K : IM → Prop} {T : Tx} {r : PS} {c : Int32} (h : MP I T r) (hc : 0 < c) (k : ∀ I2, NFr I I2 → MP I2 T (aft (sq r (tkP c))) → I 106 3 ≤ I2 106 3 → K I2) : CV (d + 1) 176 [vR (some 106), vI c] (mm I D) K := by
  refine s_M_expect _ (brP_i (fun q => ?_) (fun q => qV_i ?_))
  · obtain ⟨s, rfl⟩ := h.fl.mp q
    obtain ⟨g1, g2, g3⟩ := h.in
    rw [e_here h]
    cases s with
    | nil =>
      refine brP_i (fun _ => c_wrong (m := 0) h g2 (Nat.zero_le _) (fun I2 f m e => qV_i (k I2 f m (by rw [e]; exact Int32.le_refl _)))) (fun e => ?_)
      have : (-1 : Int32) = c := Classical.not_not.mp e
      rw [← this] at hc
      exact absurd hc (by decide)
    | cons x t =>
      have hl := g1.1
      rw [List.length_cons] at hl
      have es : sq (.inl (x :: t) : PS) (tkP c) = if x = c then .inl ((), t) else .inr (t.length + 1) := rfl
      rw [es] at k
      refine brP_i (fun e => ?_) (fun e => ?_)
      · have e : ¬ x = c := e
        rw [if_neg e] at k
        exact c_wrong (m := t.length + 1) h g2 hl (fun I2 f m e => qV_i (k I2 f m (by rw [e]; exact Int32.le_refl _)))
      · have e : x = c := Classical.not_not.mp e
        have h160 := h.1.2.1
        rw [if_pos e] at k
        exact qV_i (k _ (NFr.up (by omega)) h.next.1 (by rw [up2_eq, h.next.2, g2, List.length_cons, z32_le] <;> omega))
  · rcases r with s | m
    · exact absurd (h.fl.mpr ⟨s, rfl⟩) q
    · exact k I NFr.rf h (Int32.le_refl _)
theorem low_b (x : Int32) : b32 (97 ≤ x ∧ x ≤ 122) = b32 (lowB x = true) := by
  have : (97 ≤ x ∧ x ≤ 122) ↔ lowB x = true := by
    unfold lowB
    rw [Bool.and_eq_true, decide_eq_true_eq, decide_eq_true_eq]
  by_cases h : lowB x = true
  · rw [b32_t h, b32_t (this.mpr h)]
  · rw [b32_f h, b32_f (fun c => h (this.mp c))]
/-- where a word ends -/
theorem word_end {d : Nat} {I : IM} {D : DY} {Q : Option PV → PM → Prop} {T : Tx} {p1 p2 : Int32} (ht : TPm I T) : ∀ (s : Tx), sfx s T → Wp GG (d + 1) 172 55 [vR (some 106), vI p1, vI p2, vI (z32 ((T.length - s.length + (wdOf s).length : Nat) : Int)), vI p1] [] (mm I D) Q → Wp GG (d + 1) 172 22 [vR (some 106), vI p1, vI p2, vI (z32 ((T.length - s.length : Nat) : Int)), vT] [] (mm I D) Q := by
  intro s
  induction s with
  | nil =>
    intro hs k
    refine s_M_readWord_22 _ _ _ ?_
    rw [ht.1]
    have h160 := ht.2.1
    have h0 : ([] : Tx).length = 0 := rfl
    refine (brP_t (by rw [z32_le] <;> omega)).mpr ?_
    exact k
  | cons x t ih =>
    intro hs k
    have hl := hs.1
    rw [List.length_cons] at hl
    have h160 := ht.2.1
    refine s_M_readWord_22 _ _ _ ?_
    rw [ht.1, List.length_cons]
    refine (brP_f (by rw [z32_le] <;> omega)).mpr (tsP_i (inB_n (by omega) (by omega)) ?_)
    rw [ix_n (by omega), ht.2.2.1 _ (by omega), hs.head, e_in, low_b]
    rw [wdOf_cons] at k
    refine br0 (fun q => ?_) (fun q => ?_)
    · rw [if_pos q, List.length_cons, List.length_cons] at k
      rw [z32_s, show T.length - (t.length + 1) + 1 = T.length - t.length by omega]
      refine ih hs.tail ?_
      rw [show T.length - t.length + (wdOf t).length = T.length - (t.length + 1) + ((wdOf t).length + 1) by omega]
      exact k
    · rw [if_neg q, List.length_cons] at k
      exact k
def iwF : Tx → Tx → Bool
  | [], w :: _ => decide (w = 32)
  | x :: s, w :: ws => decide (w = x) && iwF s ws
  | _, [] => false
theorem iwF_eq : ∀ (s W R : Tx), (∀ x ∈ s, lowB x = true) → (∀ x ∈ W, x ≠ 32) → (iwF s (W ++ 32 :: R) = true ↔ s = W)
  | [], [], R, _, _ => by simp [iwF]
  | [], w :: W, R, _, hW => by
    have := hW w List.mem_cons_self
    simp [iwF, this]
  | x :: s, [], R, hs, _ => by
    have h := hs x List.mem_cons_self
    have : ¬ (32 : Int32) = x := fun e => by rw [← e] at h; exact absurd h (by decide)
    simp [iwF, this]
  | x :: s, w :: W, R, hs, hW => by
    have ih := iwF_eq s W R (fun y hy => hs y (List.mem_cons_of_mem _ hy)) (fun y hy => hW y (List.mem_cons_of_mem _ hy))
    show (decide (w = x) && iwF s (W ++ 32 :: R)) = true ↔ _
    rw [Bool.and_eq_true, decide_eq_true_eq, ih]
    exact ⟨fun ⟨a, b⟩ => by rw [a, b], fun e => by cases e; exact ⟨rfl, rfl⟩⟩
theorem drop_get {l : Tx} {k : Nat} {w : Int32} {ws : Tx} (h : l.drop k = w :: ws) : k < l.length ∧ l.getD k 0 = w ∧ l.drop (k + 1) = ws := by
  have hk : k < l.length := by
    rcases Nat.lt_or_ge k l.length with q | q
    · exact q
    · rw [List.drop_eq_nil_of_le q] at h
      cases h
  rw [List.drop_eq_getElem_cons hk] at h
  cases h
  refine ⟨hk, ?_, rfl⟩
  rw [List.getD_eq_getElem?_getD, List.getElem?_eq_getElem hk]
  rfl
theorem isw_loop {d : Nat} {I : IM} {D : DY} {T : Tx} {p1 p2 : Int32} (h : WRD I) (ht : TPm I T) : ∀ (seg : Tx) (k i e : Nat), T.drop i = seg ++ T.drop e → i + seg.length = e → e ≤ T.length → (∀ x ∈ seg, lowB x = true) → (∃ W R, wdT.drop k = W ++ 32 :: R) →
    Wp GG (d + 1) 173 10 [vR (some 106), vI p1, vI p2, vI (z32 (e : Int)), vI (z32 (k : Int)), vI (z32 (i : Int))] [] (mm I D) (qI (mm I D) (fun x I2 => x = b32 (iwF seg (wdT.drop k) = true) ∧ I2 = I)) := by
  have h160 := ht.2.1
  have w163 := wdT_len
  intro seg
  induction seg with
  | nil =>
    intro k i e hd he hel hs ⟨W, R, hW⟩
    rw [List.length_nil, Nat.add_zero] at he
    subst he
    obtain ⟨w, ws, hw⟩ : ∃ w ws, wdT.drop k = w :: ws := by cases W with
      | nil => exact ⟨32, R, hW⟩
      | cons w W => exact ⟨w, _, hW⟩
    obtain ⟨g1, g2, g3⟩ := drop_get hw
    refine s_M_isWord_10 _ _ _ _ _ ((brP_t (Int32.le_refl _)).mpr (tsP_i (inB_n (by omega) (by omega)) ?_))
    rw [ix_n (by omega), h k (by omega), g2, hw]
    refine brP_i (fun q => qI_i ⟨?_, rfl⟩) (fun q => qI_i ⟨?_, rfl⟩)
    · exact (b32_f (fun c => q (of_decide_eq_true c))).symm
    · exact (b32_t (decide_eq_true (Classical.not_not.mp q))).symm
  | cons x seg ih =>
    intro k i e hd he hel hs ⟨W, R, hW⟩
    rw [List.length_cons] at he
    obtain ⟨f1, f2, f3⟩ := drop_get (show T.drop i = x :: (seg ++ T.drop e) from hd)
    have hx := hs x List.mem_cons_self
    obtain ⟨w, ws, hw⟩ : ∃ w ws, wdT.drop k = w :: ws := by cases W with
      | nil => exact ⟨32, R, hW⟩
      | cons w W => exact ⟨w, _, hW⟩
    obtain ⟨g1, g2, g3⟩ := drop_get hw
    refine s_M_isWord_10 _ _ _ _ _ ((brP_f (by rw [z32_le] <;> omega)).mpr (tsP_i (inB_n (by omega) (by omega)) (tsP_i (inB_n (by omega) (by omega)) ?_)))
    rw [ix_n (n := k) (by omega), ix_n (n := i) (by omega), h k (by omega), g2, ht.2.2.1 i f1, f2, hw, z32_s, z32_s]
    refine brP_i (fun q => ?_) (fun q => qI_i ⟨?_, rfl⟩)
    · have e1 : iwF (x :: seg) (w :: ws) = iwF seg ws := by
        show (decide (w = x) && iwF seg ws) = _
        rw [decide_eq_true q]
        rfl
      rw [e1, ← g3]
      refine ih (k + 1) (i + 1) e f3 (by omega) hel (fun y hy => hs y (List.mem_cons_of_mem _ hy)) ?_
      cases W with
      | nil =>
        rw [hw] at hW
        have : w = 32 := by cases hW; rfl
        rw [← q, this] at hx
        exact absurd hx (by decide)
      | cons w2 W =>
        rw [hw] at hW
        exact ⟨W, R, by rw [g3]; cases hW; rfl⟩
    · refine (b32_f (fun c => q ?_)).symm
      have c : (decide (w = x) && iwF seg ws) = true := c
      rw [Bool.and_eq_true, decide_eq_true_eq] at c
      exact c.1
theorem wds32 : ∀ w : Nat, w < 33 → ∀ x ∈ wdsL.getD w [], x ≠ 32 := by decide +kernel
theorem e_isWord {d : Nat} {I : IM} {D : DY} {K : Int32 → IM → Prop} {T s : Tx} {w : Nat} (h : WRD I) (ht : TPm I T) (hs : sfx s T) (hw : w < 33) : CI (d + 1) 173 [vR (some 106), vI (z32 (w : Int)), vI (z32 ((T.length - s.length : Nat) : Int)), vI (z32 ((T.length - s.length + (wdOf s).length : Nat) : Int))] (mm I D) K ↔ K (b32 (wdOf s = wdsL.getD w [])) I := by
  obtain ⟨-, -, h3, h4⟩ := plW_ok w hw
  have hl := hs.1
  have hwl := wdOf_len s
  have hsd := hs.2
  refine CI_iff (s_M_isWord _ _ _ ?_)
  rw [e_place h hw]
  have hd : T.drop (T.length - s.length) = wdOf s ++ T.drop (T.length - s.length + (wdOf s).length) := by
    have e1 : wdOf s = s.take (wdOf s).length := List.prefix_iff_eq_take.mp (List.takeWhile_prefix _)
    rw [← List.drop_drop, ← hsd]
    have e2 := List.take_append_drop (wdOf s).length s
    rw [← e1] at e2
    exact e2.symm
  have := isw_loop (d := d) (D := D) (p1 := z32 (w : Int)) (p2 := z32 ((T.length - s.length : Nat) : Int)) h ht (wdOf s) (plW w) (T.length - s.length) (T.length - s.length + (wdOf s).length) hd rfl (by omega) (fun x hx => by
    unfold wdOf at hx
    exact List.all_eq_true.mp List.all_takeWhile x hx) ⟨_, _, h3⟩
  have e : b32 (iwF (wdOf s) (wdT.drop (plW w)) = true) = b32 (wdOf s = wdsL.getD w []) := by
    rw [h3]
    have q := iwF_eq (wdOf s) (wdsL.getD w []) (wdT.drop (plW (w + 1))) (fun x hx => by
      unfold wdOf at hx
      exact List.all_eq_true.mp List.all_takeWhile x hx) (wds32 w hw)
    by_cases c : wdOf s = wdsL.getD w []
    · rw [b32_t c, b32_t (q.mpr c)]
    · rw [b32_f c, b32_f (fun x => c (q.mp x))]
  rw [e] at this
  exact this
theorem wds_ne : ∀ w : Nat, w < 33 → wdsL.getD w [] ≠ [] := by decide +kernel
def fdI (w : Tx) : List Tx → Option Nat
  | [] => none
  | x :: l => if x = w then some 0 else (fdI w l).map (· + 1)
theorem fdI_eq (w : Tx) : ∀ l : List Tx, l.findIdx? (fun x => decide (x = w)) = fdI w l
  | [] => rfl
  | x :: l => by
    rw [List.findIdx?_cons, fdI_eq w l]
    show _ = if x = w then some 0 else (fdI w l).map (· + 1)
    by_cases h : x = w
    · rw [if_pos h, if_pos (decide_eq_true h)]
    · rw [if_neg h, if_neg (by rw [decide_eq_false h]; decide)]
theorem word_try {d : Nat} {I : IM} {D : DY} {K : Int32 → IM → Prop} {T s : Tx} {lo hi : Nat} (h : WRD I) (hM : MP I T (.inl s)) (hh : hi < 33) : ∀ (g w : Nat), w + g = hi + 1 → lo ≤ w → 
    (∀ I2 q, fdI (wdOf s) ((wdsL.drop w).take g) = some q → NFr I I2 → MP I2 T (.inl (s.drop (wdOf s).length)) → K (z32 ((w + q - lo : Nat) : Int)) I2) → (∀ I2, fdI (wdOf s) ((wdsL.drop w).take g) = none → NFr I I2 → MP I2 T (.inr s.length) → K (-1) I2) →
    Wp GG (d + 2) 172 55 [vR (some 106), vI (z32 (lo : Int)), vI (z32 (hi : Int)), vI (z32 ((T.length - s.length + (wdOf s).length : Nat) : Int)), vI (z32 (w : Int))] [] (mm I D) (qI (mm I D) K) := by
  obtain ⟨g1, g2, g3⟩ := hM.in
  have hl := g1.1
  have h160 := hM.1.2.1
  have hwl := wdOf_len s
  have len33 : wdsL.length = 33 := by decide
  intro g
  induction g with
  | zero =>
    intro w hw hlo k1 k2
    refine s_M_readWord_55 _ _ _ _ ((brP_t (by rw [z32_lt] <;> omega)).mpr ?_)
    exact c_wrong (m := s.length) hM g2 hl (fun I2 f m _ => qI_i (k2 I2 rfl f m))
  | succ g ih =>
    intro w hw hlo k1 k2
    have hwn := wds_ne w (by omega)
    have ed : (wdsL.drop w).take (g + 1) = wdsL.getD w [] :: (wdsL.drop (w + 1)).take g := by
      rw [List.drop_eq_getElem_cons (by omega), List.take_succ_cons]
      congr 1
      rw [List.getD_eq_getElem?_getD, List.getElem?_eq_getElem (by omega)]
      rfl
    have ef : fdI (wdOf s) ((wdsL.drop w).take (g + 1)) = if wdsL.getD w [] = wdOf s then some 0 else (fdI (wdOf s) ((wdsL.drop (w + 1)).take g)).map (· + 1) := by rw [ed]; rfl
    rw [ef] at k1 k2
    have next : wdsL.getD w [] ≠ wdOf s → Wp GG (d + 2) 172 55 [vR (some 106), vI (z32 (lo : Int)), vI (z32 (hi : Int)), vI (z32 ((T.length - s.length + (wdOf s).length : Nat) : Int)), vI (z32 (w : Int) + 1)] [] (mm I D) (qI (mm I D) K) := fun hne => by
      rw [if_neg hne] at k1 k2
      rw [z32_s]
      refine ih (w + 1) (by omega) (by omega) (fun I2 q e f m => ?_) (fun I2 e f m => k2 I2 (by rw [e]; rfl) f m)
      have := k1 I2 (q + 1) (by rw [e]; rfl) f m
      rwa [show w + (q + 1) - lo = w + 1 + q - lo by omega] at this
    refine s_M_readWord_55 _ _ _ _ ((brP_f (by rw [z32_lt] <;> omega)).mpr ?_)
    rw [g2]
    refine brP_i (fun q => next (fun e => ?_)) (fun q => ?_)
    · rw [z32_inj (by omega) (by omega) (by omega) (by omega)] at q
      have : (wdOf s).length = 0 := by omega
      rw [e] at hwn
      exact hwn (List.eq_nil_of_length_eq_zero this)
    · rw [e_isWord h hM.1 g1 (by omega)]
      refine br1 (fun q2 => qI_i ?_) (fun q2 => next (fun e => q2 e.symm))
      rw [if_pos q2.symm] at k1
      have e1 : z32 (w : Int) - z32 (lo : Int) = z32 ((w + 0 - lo : Nat) : Int) := by
        rw [z32_sub]
        congr 1
        omega
      rw [e1]
      refine k1 _ 0 rfl (NFr.up (by omega)) ⟨hM.1.nf (NFr.up (by omega)), ⟨_, by omega, up2_eq⟩, g1.drop _, ?_, (up2_nj (by omega)).trans g3⟩
      rw [up2_eq, List.length_drop]
      congr 2
      omega
theorem m_word {d : Nat} {I : IM} {D : DY} {K : Int32 → IM → Prop} {T : Tx} {r : PS} {ws : List Tx} {lo hi : Nat} (h : WRD I) (hM : MP I T r) (hh : lo ≤ hi ∧ hi < 33) (hws : (wdsL.drop lo).take (hi + 1 - lo) = ws)
    (k : ∀ x I2, NFr I I2 → MP I2 T (aft (sq r (wdP ws))) → (∀ q s, sq r (wdP ws) = .inl (q, s) → x = z32 (q : Int)) → ((∀ q s, sq r (wdP ws) ≠ .inl (q, s)) → x = -1) → K x I2) : CI (d + 2) 172 [vR (some 106), vI (z32 (lo : Int)), vI (z32 (hi : Int))] (mm I D) K := by
  refine s_M_readWord _ _ (brP_i (fun q => ?_) (fun q => qI_i ?_))
  · obtain ⟨s, rfl⟩ := hM.fl.mp q
    obtain ⟨g1, g2, g3⟩ := hM.in
    have f5 : NFr I (up2 I 106 5 (I 106 3)) := NFr.up (by omega)
    have hM5 : MP (up2 I 106 5 (I 106 3)) T (.inl s) := ⟨hM.1.nf f5, by obtain ⟨a, a1, a2⟩ := hM.2.1; exact ⟨a, a1, (up2_nj (by omega)).trans a2⟩, g1, (up2_nj (by omega)).trans g2, (up2_nj (by omega)).trans g3⟩
    generalize hJ : up2 I 106 5 (I 106 3) = J at *
    rw [g2]
    have ew : wdP ws s = (match fdI (wdOf s) ws with
      | some q => .inl (q, s.drop (wdOf s).length)
      | none => .inr s.length) := by
      unfold wdP
      rw [fdI_eq]
      cases fdI (wdOf s) ws <;> rfl
    rw [sq_inl, ew] at k
    refine word_end (d := d + 1) hM5.1 s g1 (word_try (d := d) (lo := lo) (hi := hi) (h.nf f5) hM5 hh.2 (hi + 1 - lo) lo (by omega) (Nat.le_refl _) (fun I2 q e f m => ?_) (fun I2 e f m => ?_))
    · rw [hws] at e
      rw [e] at k
      rw [show lo + q - lo = q by omega]
      exact k _ I2 (f5.tr f) m (fun q2 s2 c => by cases c; rfl) (fun c => absurd rfl (c _ _))
    · rw [hws] at e
      rw [e] at k
      exact k _ I2 (f5.tr f) m (fun q2 s2 c => by cases c) (fun _ => rfl)
  · rcases r with s | m
    · exact absurd (hM.fl.mpr ⟨s, rfl⟩) q
    · exact k _ I NFr.rf hM (fun q s c => by cases c) (fun _ => rfl)
