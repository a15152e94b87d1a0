section
/-! PURE MACHINE: the bytecode read by one function over a typed memory of places. Sound over the kit's machine (part sound); all else is proved of it. -/
abbrev PV : Type := Int32 ⊕ (Option Nat ⊕ (Int64 ⊕ Unit))
abbrev vI (x : Int32) : PV := .inl x
abbrev vR (r : Option Nat) : PV := .inr (.inl r)
abbrev vL (z : Int64) : PV := .inr (.inr (.inl z))
abbrev vT : PV := .inr (.inr (.inr ()))
/-- places in use, slots in use, kind, length, whole numbers, references -/
abbrev PM : Type := Nat × Nat × (Nat → Nat) × (Nat → Nat) × (Nat → Nat → Int32) × (Nat → Nat → Option Nat)
abbrev pSz (M : PM) : Nat := M.1
abbrev pSl (M : PM) : Nat := M.2.1
abbrev pKd (M : PM) : Nat → Nat := M.2.2.1
abbrev pLn (M : PM) : Nat → Nat := M.2.2.2.1
abbrev pI (M : PM) : Nat → Nat → Int32 := M.2.2.2.2.1
abbrev pR (M : PM) : Nat → Nat → Option Nat := M.2.2.2.2.2
def up1 {α : Type} (f : Nat → α) (a : Nat) (v : α) : Nat → α := fun b => if b = a then v else f b
def up2 {α : Type} (f : Nat → Nat → α) (a j : Nat) (v : α) : Nat → Nat → α := fun b k => if b = a ∧ k = j then v else f b k
def upr {α : Type} (f : Nat → Nat → α) (a : Nat) (v : α) : Nat → Nat → α := fun b k => if b = a then v else f b k
def cpI (f : Nat → Nat → Int32) (a b sp dp n : Nat) : Nat → Nat → Int32 := fun q k => if q = b ∧ dp ≤ k ∧ k < dp + n then f a (sp + (k - dp)) else f q k
def setI (M : PM) (a j : Nat) (v : Int32) : PM := (pSz M, pSl M, pKd M, pLn M, up2 (pI M) a j v, pR M)
def setR (M : PM) (a j : Nat) (v : Option Nat) : PM := (pSz M, pSl M, pKd M, pLn M, pI M, up2 (pR M) a j v)
def mkN (M : PM) (c n : Nat) : PM := (pSz M + 1, pSl M + n, up1 (pKd M) (pSz M) c, up1 (pLn M) (pSz M) n, upr (pI M) (pSz M) 0, upr (pR M) (pSz M) none)
/-- an array of arrays of ints: the outer one, and behind it the inner ones -/
def mkG (M : PM) (n k : Nat) : PM := (pSz M + (1 + n), pSl M + (n + n * k), fun b => if b = pSz M then 27 else if pSz M < b ∧ b < pSz M + (1 + n) then 20 else pKd M b, fun b => if b = pSz M then n else if pSz M < b ∧ b < pSz M + (1 + n) then k else pLn M b,
  fun b j => if pSz M ≤ b ∧ b < pSz M + (1 + n) then 0 else pI M b j, fun b j => if b = pSz M then (if j < n then some (pSz M + 1 + j) else none) else if pSz M < b ∧ b < pSz M + (1 + n) then none else pR M b j)
def cpyM (M : PM) (a b sp dp n : Nat) : PM := (pSz M, pSl M, pKd M, pLn M, cpI (pI M) a b sp dp n, pR M)
abbrev kInt : Nat := 20
abbrev kByt : Nat := 21
/-- the script's kind: it is read alone -/
abbrev kScr : Nat := 19
def notL (v : PV) : Bool := match v with
  | .inl _ => true
  | .inr (.inl _) => true
  | _ => false
/-- so many arguments lie on the stack, none of them long -/
def okC (n : Nat) (st : List PV) : Bool := Nat.beq (st.take n).length n && (st.take n).all notL
/-- an index within a length -/
abbrev inB (i : Int32) (n : Nat) : Prop := 0 ≤ i.toInt ∧ i.toInt < (n : Int)
abbrev ixN (i : Int32) : Nat := i.toInt.toNat
def onR {ρ : Type} (fl : ρ) (r : Option Nat) (k : Nat → ρ) : ρ := match r with
  | none => fl
  | some a => k a
def cOk (c : ClassFile.Cond) (x y : Int32) : Prop := match c with
  | .eq => x = y
  | .ne => ¬ x = y
  | .lt => x < y
  | .ge => y ≤ x
  | .gt => y < x
  | .le => x ≤ y
def cDec (c : ClassFile.Cond) (x y : Int32) : Decidable (cOk c x y) := match c with
  | .eq => inferInstanceAs (Decidable (x = y))
  | .ne => inferInstanceAs (Decidable (¬ x = y))
  | .lt => inferInstanceAs (Decidable (x < y))
  | .ge => inferInstanceAs (Decidable (y ≤ x))
  | .gt => inferInstanceAs (Decidable (y < x))
  | .le => inferInstanceAs (Decidable (x ≤ y))
def lTab (a : Nat) : Int64 := match a with
  | 0 => 0
  | 1 => 1
  | 2 => 10
  | 3 => 1000000000
  | 4 => 4294967295
  | 5 => -1
  | 6 => -9223372036854775808
  | _ => -9223372036854775708
def lcmpV (x y : Int64) : Int32 := if y < x then 1 else if x = y then 0 else -1
/-- what may be returned by a method of this kind: 1 int, 2 boolean, 3 char, 4 byte -/
def rOk (rk : Nat) (v : Int32) : Prop := match rk with
  | 1 => True
  | 2 => v = 0 ∨ v = 1
  | 3 => (v.toUInt32 % 65536).toInt32 = v
  | 4 => v.toInt8.toInt32 = v
  | _ => False
def rDec (rk : Nat) (v : Int32) : Decidable (rOk rk v) := match rk with
  | 0 => inferInstanceAs (Decidable False)
  | 1 => inferInstanceAs (Decidable True)
  | 2 => inferInstanceAs (Decidable (v = 0 ∨ v = 1))
  | 3 => inferInstanceAs (Decidable ((v.toUInt32 % 65536).toInt32 = v))
  | 4 => inferInstanceAs (Decidable (v.toInt8.toInt32 = v))
  | _ + 5 => inferInstanceAs (Decidable False)
/-- the class of what an array of references of this kind holds -/
def eCl (k : Nat) : Nat := match k with
  | 22 => 4
  | 23 => 2
  | 24 => 7
  | 26 => 13
  | _ => 6
def tsw {ρ : Type} (br : (c : Prop) → Decidable c → ρ → ρ → ρ) (nx : Nat → ρ) (x : Int32) (dflt : Nat) : Int32 → List Nat → ρ
  | _, [] => nx dflt
  | lo, t :: ts => br (x = lo) inferInstance (nx t) (tsw br nx x dflt (lo + 1) ts)
/-- an instruction, with what its entry stands for: two numbers and a whole number (see the part of the tables) -/
abbrev PE : Type := ClassFile.Instr × Nat × Nat × Int32 × List Nat
/-- the classes' numbers of fields; which field of a class is a reference, a boolean -/
abbrev PF : Type := (Nat → Nat) × (Nat → Nat → Nat)
def op {ρ : Type} (fl : ρ) (ts : (c : Prop) → Decidable c → ρ → ρ) (br : (c : Prop) → Decidable c → ρ → ρ → ρ) (nx : Nat → List PV → List PV → PM → ρ) (rt : Option PV → PM → ρ)
    (cl : Nat → List PV → PM → Nat → List PV → List PV → ρ) (X : PF) (mc : Nat → Nat) (d rk : Nat) (e : PE) (pc : Nat) (ls st : List PV) (M : PM) : ρ :=
  match e.1 with
  | .iconst _ => nx (pc + 1) ls (vI e.2.2.2.1 :: st) M
  | .bipush _ => nx (pc + 2) ls (vI e.2.2.2.1 :: st) M
  | .sipush _ => nx (pc + 3) ls (vI e.2.2.2.1 :: st) M
  | .ldc _ => match e.2.1 with
    | 0 => nx (pc + 2) ls (vI e.2.2.2.1 :: st) M
    | _ + 1 => nx (pc + 2) ls (vR (some e.2.2.1) :: st) M
  | .ldc_w _ => match e.2.1 with
    | 0 => nx (pc + 3) ls (vI e.2.2.2.1 :: st) M
    | _ + 1 => nx (pc + 3) ls (vR (some e.2.2.1) :: st) M
  | .lconst _ => nx (pc + 1) ls (vL (lTab e.2.1) :: st) M
  | .ldc2_w _ => nx (pc + 3) ls (vL (lTab e.2.1) :: st) M
  | .aconst_null => nx (pc + 1) ls (vR none :: st) M
  | .iload_n _ => match ls[e.2.1]? with
    | some (.inl x) => nx (pc + 1) ls (vI x :: st) M
    | _ => fl
  | .iload _ => match ls[e.2.1]? with
    | some (.inl x) => nx (pc + 2) ls (vI x :: st) M
    | _ => fl
  | .lload_n _ => match ls[e.2.1]? with
    | some (.inr (.inr (.inl x))) => nx (pc + 1) ls (vL x :: st) M
    | _ => fl
  | .lload _ => match ls[e.2.1]? with
    | some (.inr (.inr (.inl x))) => nx (pc + 2) ls (vL x :: st) M
    | _ => fl
  | .aload_n _ => match ls[e.2.1]? with
    | some (.inr (.inl x)) => nx (pc + 1) ls (vR x :: st) M
    | _ => fl
  | .aload _ => match ls[e.2.1]? with
    | some (.inr (.inl x)) => nx (pc + 2) ls (vR x :: st) M
    | _ => fl
  | .istore_n _ => match st with
    | .inl x :: st => nx (pc + 1) (ls.set e.2.1 (vI x)) st M
    | _ => fl
  | .istore _ => match st with
    | .inl x :: st => nx (pc + 2) (ls.set e.2.1 (vI x)) st M
    | _ => fl
  | .lstore_n _ => match st with
    | .inr (.inr (.inl x)) :: st => nx (pc + 1) ((ls.set e.2.1 (vL x)).set (e.2.1 + 1) vT) st M
    | _ => fl
  | .lstore _ => match st with
    | .inr (.inr (.inl x)) :: st => nx (pc + 2) ((ls.set e.2.1 (vL x)).set (e.2.1 + 1) vT) st M
    | _ => fl
  | .astore_n _ => match st with
    | .inr (.inl x) :: st => nx (pc + 1) (ls.set e.2.1 (vR x)) st M
    | _ => fl
  | .astore _ => match st with
    | .inr (.inl x) :: st => nx (pc + 2) (ls.set e.2.1 (vR x)) st M
    | _ => fl
  | .iinc _ _ => match ls[e.2.1]? with
    | some (.inl x) => nx (pc + 3) (ls.set e.2.1 (vI (x + e.2.2.2.1))) st M
    | _ => fl
  | .iadd => match st with
    | .inl y :: .inl x :: st => nx (pc + 1) ls (vI (x + y) :: st) M
    | _ => fl
  | .isub => match st with
    | .inl y :: .inl x :: st => nx (pc + 1) ls (vI (x - y) :: st) M
    | _ => fl
  | .imul => match st with
    | .inl y :: .inl x :: st => nx (pc + 1) ls (vI (x * y) :: st) M
    | _ => fl
  | .iand => match st with
    | .inl y :: .inl x :: st => nx (pc + 1) ls (vI (x &&& y) :: st) M
    | _ => fl
  | .ior => match st with
    | .inl y :: .inl x :: st => nx (pc + 1) ls (vI (x ||| y) :: st) M
    | _ => fl
  | .idiv => match st with
    | .inl y :: .inl x :: st => ts (¬ y = 0) inferInstance (nx (pc + 1) ls (vI (x / y) :: st) M)
    | _ => fl
  | .irem => match st with
    | .inl y :: .inl x :: st => ts (¬ y = 0) inferInstance (nx (pc + 1) ls (vI (x - x / y * y) :: st) M)
    | _ => fl
  | .ineg => match st with
    | .inl x :: st => nx (pc + 1) ls (vI (-x) :: st) M
    | _ => fl
  | .ishl => match st with
    | .inl y :: .inl x :: st => nx (pc + 1) ls (vI (x <<< y) :: st) M
    | _ => fl
  | .ishr => match st with
    | .inl y :: .inl x :: st => nx (pc + 1) ls (vI (x >>> y) :: st) M
    | _ => fl
  | .iushr => match st with
    | .inl y :: .inl x :: st => nx (pc + 1) ls (vI (x.toUInt32 >>> (y.toUInt32 &&& Int32.toUInt32 31)).toInt32 :: st) M
    | _ => fl
  | .i2l => match st with
    | .inl x :: st => nx (pc + 1) ls (vL x.toInt64 :: st) M
    | _ => fl
  | .l2i => match st with
    | .inr (.inr (.inl x)) :: st => nx (pc + 1) ls (vI x.toInt32 :: st) M
    | _ => fl
  | .i2c => match st with
    | .inl x :: st => nx (pc + 1) ls (vI (x.toUInt32 % 65536).toInt32 :: st) M
    | _ => fl
  | .i2b => match st with
    | .inl x :: st => nx (pc + 1) ls (vI x.toInt8.toInt32 :: st) M
    | _ => fl
  | .ladd => match st with
    | .inr (.inr (.inl y)) :: .inr (.inr (.inl x)) :: st => nx (pc + 1) ls (vL (x + y) :: st) M
    | _ => fl
  | .lsub => match st with
    | .inr (.inr (.inl y)) :: .inr (.inr (.inl x)) :: st => nx (pc + 1) ls (vL (x - y) :: st) M
    | _ => fl
  | .lmul => match st with
    | .inr (.inr (.inl y)) :: .inr (.inr (.inl x)) :: st => nx (pc + 1) ls (vL (x * y) :: st) M
    | _ => fl
  | .land => match st with
    | .inr (.inr (.inl y)) :: .inr (.inr (.inl x)) :: st => nx (pc + 1) ls (vL (x &&& y) :: st) M
    | _ => fl
  | .ldiv => match st with
    | .inr (.inr (.inl y)) :: .inr (.inr (.inl x)) :: st => ts (¬ y = 0) inferInstance (nx (pc + 1) ls (vL (x / y) :: st) M)
    | _ => fl
  | .lrem => match st with
    | .inr (.inr (.inl y)) :: .inr (.inr (.inl x)) :: st => ts (¬ y = 0) inferInstance (nx (pc + 1) ls (vL (x - x / y * y) :: st) M)
    | _ => fl
  | .lneg => match st with
    | .inr (.inr (.inl x)) :: st => nx (pc + 1) ls (vL (-x) :: st) M
    | _ => fl
  | .lcmp => match st with
    | .inr (.inr (.inl y)) :: .inr (.inr (.inl x)) :: st => nx (pc + 1) ls (vI (lcmpV x y) :: st) M
    | _ => fl
  | .ifCond c _ => match st with
    | .inl x :: st => br (cOk c x 0) (cDec c x 0) (nx e.2.1 ls st M) (nx (pc + 3) ls st M)
    | _ => fl
  | .if_icmp c _ => match st with
    | .inl y :: .inl x :: st => br (cOk c x y) (cDec c x y) (nx e.2.1 ls st M) (nx (pc + 3) ls st M)
    | _ => fl
  | .ifnull _ => match st with
    | .inr (.inl r) :: st => br (r = none) inferInstance (nx e.2.1 ls st M) (nx (pc + 3) ls st M)
    | _ => fl
  | .ifnonnull _ => match st with
    | .inr (.inl r) :: st => br (r = none) inferInstance (nx (pc + 3) ls st M) (nx e.2.1 ls st M)
    | _ => fl
  | .goto _ => nx e.2.1 ls st M
  | .tableswitch _ _ _ _ => match st with
    | .inl x :: st => tsw br (fun t => nx t ls st M) x e.2.1 e.2.2.2.1 e.2.2.2.2
    | _ => fl
  | .dup => match st with
    | .inl x :: st => nx (pc + 1) ls (vI x :: vI x :: st) M
    | .inr (.inl r) :: st => nx (pc + 1) ls (vR r :: vR r :: st) M
    | _ => fl
  | .dup2 => match st with
    | .inl y :: .inr (.inl r) :: st => nx (pc + 1) ls (vI y :: vR r :: vI y :: vR r :: st) M
    | _ => fl
  | .pop => match st with
    | .inl _ :: st => nx (pc + 1) ls st M
    | .inr (.inl _) :: st => nx (pc + 1) ls st M
    | _ => fl
  | .getfield _ => match st with
    | .inr (.inl r) :: st => onR fl r fun a => ts (pKd M a = e.2.1) inferInstance (match X.2 e.2.1 e.2.2.1 with
      | 1 => nx (pc + 3) ls (vR (pR M a e.2.2.1) :: st) M
      | _ => nx (pc + 3) ls (vI (pI M a e.2.2.1) :: st) M)
    | _ => fl
  | .putfield _ => match st with
    | .inr (.inl v) :: .inr (.inl r) :: st => onR fl r fun a => ts (pKd M a = e.2.1) inferInstance (match X.2 e.2.1 e.2.2.1 with
      | 1 => (match e.2.2.2.2 with
        | [] => nx (pc + 3) ls st (setR M a e.2.2.1 v)
        | _ :: _ => ts (159 ≤ a) inferInstance (nx (pc + 3) ls st (setR M a e.2.2.1 v)))
      | _ => fl)
    | .inl v :: .inr (.inl r) :: st => onR fl r fun a => ts (pKd M a = e.2.1) inferInstance (match X.2 e.2.1 e.2.2.1 with
      | 0 => nx (pc + 3) ls st (setI M a e.2.2.1 v)
      | 2 => ts (v = 0 ∨ v = 1) inferInstance (nx (pc + 3) ls st (setI M a e.2.2.1 v))
      | 3 => ts (v.toInt8.toInt32 = v) inferInstance (match e.2.2.2.2 with
        | [] => nx (pc + 3) ls st (setI M a e.2.2.1 v)
        | _ :: _ => ts (159 ≤ a) inferInstance (nx (pc + 3) ls st (setI M a e.2.2.1 v)))
      | _ => fl)
    | _ => fl
  | .getstatic _ => match e.2.1 with
    | 0 => nx (pc + 3) ls (vI e.2.2.2.1 :: st) M
    | _ + 1 => nx (pc + 3) ls (vR (some e.2.2.1) :: st) M
  | .iaload => match st with
    | .inl i :: .inr (.inl r) :: st => onR fl r fun a => ts (pKd M a = e.2.1) inferInstance (ts (inB i (pLn M a)) inferInstance (nx (pc + 1) ls (vI (pI M a (ixN i)) :: st) M))
    | _ => fl
  | .baload => match st with
    | .inl i :: .inr (.inl r) :: st => onR fl r fun a => ts (pKd M a = kByt) inferInstance (ts (inB i (pLn M a)) inferInstance (nx (pc + 1) ls (vI (pI M a (ixN i)) :: st) M))
    | _ => fl
  | .bastore => match st with
    | .inl v :: .inl i :: .inr (.inl r) :: st => onR fl r fun a => ts (pKd M a = kByt ∧ 159 ≤ a) inferInstance (ts (inB i (pLn M a)) inferInstance (nx (pc + 1) ls st (setI M a (ixN i) v.toInt8.toInt32)))
    | _ => fl
  | .iastore => match st with
    | .inl v :: .inl i :: .inr (.inl r) :: st => onR fl r fun a => ts (pKd M a = kInt) inferInstance (ts (inB i (pLn M a)) inferInstance (nx (pc + 1) ls st (setI M a (ixN i) v)))
    | _ => fl
  | .aaload => match st with
    | .inl i :: .inr (.inl r) :: st => (match e.2.1 with
      | 0 => onR fl r fun a => ts (22 ≤ pKd M a ∧ pKd M a < 26) inferInstance (ts (inB i (pLn M a)) inferInstance (nx (pc + 1) ls (vR (pR M a (ixN i)) :: st) M))
      | k + 1 => onR fl r fun a => ts (pKd M a = k + 1) inferInstance (ts (inB i (pLn M a)) inferInstance (nx (pc + 1) ls (vR (pR M a (ixN i)) :: st) M)))
    | _ => fl
  | .aastore => match st with
    | .inr (.inl v) :: .inl i :: .inr (.inl r) :: st => (match e.2.1 with
      | 0 => onR fl r fun a => ts (22 ≤ pKd M a ∧ pKd M a < 26) inferInstance (ts (inB i (pLn M a)) inferInstance
        (ts (∀ b, v = some b → pKd M b = eCl (pKd M a)) (match v with
          | none => isTrue (fun _ h => nomatch h)
          | some b => decidable_of_iff (pKd M b = eCl (pKd M a)) ⟨fun h _ e => by cases e; exact h, fun h => h b rfl⟩) (nx (pc + 1) ls st (setR M a (ixN i) v))))
      | _ + 1 => onR fl r fun a => onR fl v fun b => ts (pKd M a = 26 ∧ pKd M b = 13) inferInstance (ts (inB i (pLn M a)) inferInstance (nx (pc + 1) ls st (setR M a (ixN i) (some b)))))
    | _ => fl
  | .arraylength => match st with
    | .inr (.inl r) :: st => onR fl r fun a => ts (19 ≤ pKd M a ∧ pKd M a < 26) inferInstance (nx (pc + 1) ls (vI (Int32.ofNat (pLn M a)) :: st) M)
    | _ => fl
  | .newarray _ => match st with
    | .inl n :: st => (match e.2.1 with
      | 0 => ts (0 ≤ n.toInt ∧ n.toInt ≤ 100000) inferInstance (nx (pc + 2) ls (vR (some (pSz M)) :: st) (mkN M kInt (ixN n)))
      | _ + 1 => ts (0 ≤ n.toInt ∧ n.toInt ≤ 100000) inferInstance (nx (pc + 2) ls (vR (some (pSz M)) :: st) (mkN M kByt (ixN n))))
    | _ => fl
  | .multianewarray _ _ => match st with
    | .inl k :: .inl n :: st => ts (0 ≤ n.toInt ∧ n.toInt ≤ 1000 ∧ 0 ≤ k.toInt ∧ k.toInt ≤ 1000) inferInstance (nx (pc + 4) ls (vR (some (pSz M)) :: st) (mkG M (ixN n) (ixN k)))
    | _ => fl
  | .anewarray _ => match st with
    | .inl n :: st => ts (0 ≤ n.toInt ∧ n.toInt ≤ 100000) inferInstance (nx (pc + 3) ls (vR (some (pSz M)) :: st) (mkN M e.2.1 (ixN n)))
    | _ => fl
  | .new _ => nx (pc + 3) ls (vR (some (pSz M)) :: st) (mkN M e.2.1 (X.1 e.2.1))
  | .invokespecial _ => match e.2.2.1 with
    | 0 => match d, st with
      | _ + 1, .inr (.inl r) :: st => (match Nat.ble st.length 4 with
        | true => onR fl r fun _ => nx (pc + 3) ls st M
        | false => fl)
      | _, _ => fl
    | n + 1 => match okC n st with
      | true => (match st.drop n with
        | .inr (.inl r) :: st' => (match Nat.ble st'.length 4 with
          | true => onR fl r fun a => ts (pKd M a = mc e.2.1) inferInstance (cl e.2.1 (vR (some a) :: (st.take n).reverse) M (pc + 3) ls st')
          | false => fl)
        | _ => fl)
      | false => fl
  | .invokevirtual _ => match e.2.2.2.2 with
    | [_] => match d, st with
      | _ + 1, .inr (.inl r) :: st => (match Nat.ble st.length 4 with
        | true => onR fl r fun a => ts (pKd M a = kInt) inferInstance (nx (pc + 3) ls (vR (some (pSz M)) :: st) (cpyM (mkN M kInt (pLn M a)) a (pSz M) 0 0 (pLn M a)))
        | false => fl)
      | _, _ => fl
    | _ :: _ :: _ => match d, st with
      | _ + 1, .inr (.inl r) :: st => (match Nat.ble st.length 4 with
        | true => onR fl r fun a => ts (pKd M a = kByt ∧ 159 ≤ a) inferInstance (nx (pc + 3) ls (vR (some (pSz M)) :: st) (cpyM (mkN M kByt (pLn M a)) a (pSz M) 0 0 (pLn M a)))
        | false => fl)
      | _, _ => fl
    | [] => match okC e.2.2.1 st with
      | true => (match st.drop e.2.2.1 with
        | .inr (.inl r) :: st' => (match Nat.ble st'.length 4 with
          | true => onR fl r fun a => ts (pKd M a = mc e.2.1) inferInstance (cl e.2.1 (vR (some a) :: (st.take e.2.2.1).reverse) M (pc + 3) ls st')
          | false => fl)
        | _ => fl)
      | false => fl
  | .invokestatic _ => match e.2.2.1 with
    | 9 => match d, st with
      | _ + 1, .inl n :: .inl dp :: .inr (.inl rd) :: .inl sp :: .inr (.inl rs) :: st => (match Nat.ble st.length 4 with
        | true => onR fl rs fun a => onR fl rd fun b => ts (pKd M a = kInt ∧ pKd M b = kInt) inferInstance
          (ts (0 ≤ sp.toInt ∧ 0 ≤ dp.toInt ∧ 0 ≤ n.toInt ∧ sp.toInt + n.toInt ≤ pLn M a ∧ dp.toInt + n.toInt ≤ pLn M b) inferInstance (nx (pc + 3) ls st (cpyM M a b (ixN sp) (ixN dp) (ixN n))))
        | false => fl)
      | _, _ => fl
    | 10 => match d, st with
      | _ + 1, .inl n :: .inl dp :: .inr (.inl rd) :: .inl sp :: .inr (.inl rs) :: st => (match Nat.ble st.length 4 with
        | true => onR fl rs fun a => onR fl rd fun b => ts (pKd M a = kByt ∧ pKd M b = kByt ∧ 159 ≤ b) inferInstance
          (ts (0 ≤ sp.toInt ∧ 0 ≤ dp.toInt ∧ 0 ≤ n.toInt ∧ sp.toInt + n.toInt ≤ pLn M a ∧ dp.toInt + n.toInt ≤ pLn M b) inferInstance (nx (pc + 3) ls st (cpyM M a b (ixN sp) (ixN dp) (ixN n))))
        | false => fl)
      | _, _ => fl
    | 8 => match d, st with
      | _ + 2, .inl n :: .inl i :: st => (match Nat.ble st.length 4 with
        | true => ts (0 ≤ i.toInt ∧ i.toInt < n.toInt) inferInstance (nx (pc + 3) ls st M)
        | false => fl)
      | _, _ => fl
    | n => match okC n st with
      | true => (match Nat.ble (st.drop n).length 4 with
        | true => cl e.2.1 (st.take n).reverse M (pc + 3) ls (st.drop n)
        | false => fl)
      | false => fl
  | .checkcast _ => match st with
    | .inr (.inl r) :: st => (match e.2.1 with
      | 0 => onR fl r fun a => ts (pKd M a = kInt) inferInstance (nx (pc + 3) ls (vR (some a) :: st) M)
      | _ + 1 => onR fl r fun a => ts (pKd M a = kByt ∧ 159 ≤ a) inferInstance (nx (pc + 3) ls (vR (some a) :: st) M))
    | _ => fl
  | .ireturn => match st with
    | [.inl v] => ts (rOk rk v) (rDec rk v) (rt (some (vI v)) M)
    | _ => fl
  | .lreturn => match st with
    | [.inr (.inr (.inl v))] => rt (some (vL v)) M
    | _ => fl
  | .areturn => match st with
    | [.inr (.inl v)] => rt (some (vR v)) M
    | _ => fl
  | .return_ => match st with
    | [] => rt none M
    | _ => fl
  | _ => fl
/-- next, returned, or a call: method, arguments, memory, and where it goes on -/
abbrev OUT : Type := Option ((Nat × List PV × List PV × PM) ⊕ ((Option PV × PM) ⊕ (Nat × List PV × PM × Nat × List PV × List PV)))
def opF (X : PF) (mc : Nat → Nat) (d rk : Nat) (e : PE) (pc : Nat) (ls st : List PV) (M : PM) : OUT :=
  op (ρ := OUT) none (fun c i r => @ite _ c i r none) (fun c i a b => @ite _ c i a b) (fun pc ls st M => some (.inl (pc, ls, st, M))) (fun v M => some (.inr (.inl (v, M)))) (fun y as M pc ls st => some (.inr (.inr (y, as, M, pc, ls, st)))) X mc d rk e pc ls st M
def opP (X : PF) (mc : Nat → Nat) (nx : Nat → List PV → List PV → PM → Prop) (rt : Option PV → PM → Prop) (cl : Nat → List PV → PM → Nat → List PV → List PV → Prop) (d rk : Nat) (e : PE) (pc : Nat) (ls st : List PV) (M : PM) : Prop :=
  op (ρ := Prop) False (fun c _ r => c ∧ r) (fun c _ a b => (c → a) ∧ (¬ c → b)) nx rt cl X mc d rk e pc ls st M
def satO (nx : Nat → List PV → List PV → PM → Prop) (rt : Option PV → PM → Prop) (cl : Nat → List PV → PM → Nat → List PV → List PV → Prop) (o : OUT) : Prop := match o with
  | none => False
  | some (.inl (pc, ls, st, M)) => nx pc ls st M
  | some (.inr (.inl (v, M))) => rt v M
  | some (.inr (.inr (y, as, M, pc, ls, st))) => cl y as M pc ls st
section
variable {nx : Nat → List PV → List PV → PM → Prop} {rt : Option PV → PM → Prop} {cl : Nat → List PV → PM → Nat → List PV → List PV → Prop}
theorem sat_ts {c : Prop} {i : Decidable c} {p : Prop} {o : OUT} (h : p → satO nx rt cl o) (hp : c ∧ p) : satO nx rt cl (@ite _ c i o none) := by
  rw [if_pos hp.1]
  exact h hp.2
theorem sat_br {c : Prop} {i : Decidable c} {p q : Prop} {o o2 : OUT} (h : p → satO nx rt cl o) (h2 : q → satO nx rt cl o2) (hp : (c → p) ∧ (¬ c → q)) : satO nx rt cl (@ite _ c i o o2) := by
  by_cases hc : c
  · rw [if_pos hc]
    exact h (hp.1 hc)
  · rw [if_neg hc]
    exact h2 (hp.2 hc)
theorem sat_onR {r : Option Nat} {k : Nat → Prop} {k2 : Nat → OUT} (h : ∀ a, k a → satO nx rt cl (k2 a)) (hp : onR False r k) : satO nx rt cl (onR none r k2) := by
  cases r with
  | none => exact hp.elim
  | some a => exact h a hp
theorem sat_tsw {ls st : List PV} {M : PM} {x : Int32} {dflt : Nat} : ∀ (l : List Nat) (lo : Int32), tsw (ρ := Prop) (fun c _ a b => (c → a) ∧ (¬ c → b)) (fun t => nx t ls st M) x dflt lo l →
    satO nx rt cl (tsw (ρ := OUT) (fun c i a b => @ite _ c i a b) (fun t => some (.inl (t, ls, st, M))) x dflt lo l)
  | [], _, h => h
  | _ :: ts, lo, h => sat_br (fun h => h) (fun h => sat_tsw ts (lo + 1) h) h
set_option maxHeartbeats 4000000 in
theorem op_sat (X : PF) (mc : Nat → Nat) (d rk : Nat) (e : PE) (pc : Nat) (ls st : List PV) (M : PM) (h : opP X mc nx rt cl d rk e pc ls st M) : satO nx rt cl (opF X mc d rk e pc ls st M) := by
  unfold opP at h
  unfold opF
  unfold op at h ⊢
  obtain ⟨i, a, b, z, l⟩ := e
  cases i
  all_goals first
    | exact h.elim
    | exact h
    | (dsimp only at h ⊢
       repeat' split at h
       all_goals first
         | exact h.elim
         | exact h
         | exact sat_br (fun h => h) (fun h => h) h
         | exact sat_ts (fun h => h) h
         | exact sat_ts (fun h => sat_ts (fun h => h) h) h
         | exact sat_tsw _ _ h
         | exact sat_onR (fun a h => h) h
         | exact sat_onR (fun a h => sat_ts (fun h => h) h) h
         | exact sat_onR (fun a h => sat_ts (fun h => sat_ts (fun h => h) h) h) h
         | exact sat_onR (fun a h => sat_ts (fun h => sat_ts (fun h => sat_ts (fun h => h) h) h) h) h
         | exact sat_onR (fun a h => sat_onR (fun b h => sat_ts (fun h => sat_ts (fun h => h) h) h) h) h
         | (refine sat_onR (fun a h => sat_ts (fun h => ?_) h) h
            repeat' split at h
            all_goals first
              | exact h.elim
              | exact h
              | exact sat_ts (fun h => h) h
              | exact sat_ts (fun h => sat_ts (fun h => h) h) h
              | (refine sat_ts (fun h => ?_) h
                 repeat' split at h
                 all_goals first
                   | exact h.elim
                   | exact h
                   | exact sat_ts (fun h => h) h)))
end
/-- code: method, place in its bytes; what each returns; its locals; its class; the classes' fields -/
abbrev PG : Type := (Nat → Nat → Option PE) × (Nat → Nat) × (Nat → Nat) × (Nat → Nat) × PF
def locE (G : PG) (y : Nat) (as : List PV) : List PV := as ++ List.replicate (G.2.2.1 y - as.length) vT
def exec (G : PG) : Nat → Nat → Nat → Nat → List PV → List PV → PM → Option (Option PV × PM)
  | 0, _, _, _, _, _, _ => none
  | n + 1, d, y, pc, ls, st, M => match G.1 y pc with
    | none => none
    | some e => match opF G.2.2.2.2 G.2.2.2.1 d (G.2.1 y) e pc ls st M with
      | none => none
      | some (.inl (pc', ls', st', M')) => exec G n d y pc' ls' st' M'
      | some (.inr (.inl r)) => some r
      | some (.inr (.inr (y', as, M', pc', ls', st'))) => match d with
        | 0 => none
        | d' + 1 => match exec G n d' y' 0 (locE G y' as) [] M' with
          | none => none
          | some (v, M2) => exec G n (d' + 1) y pc' ls' (v.toList ++ st') M2
theorem exec_mono (G : PG) : ∀ (n d y pc : Nat) (ls st : List PV) (M : PM) (r : Option PV × PM), exec G n d y pc ls st M = some r → exec G (n + 1) d y pc ls st M = some r := by
  intro n
  induction n with
  | zero => intro d y pc ls st M r h; cases h
  | succ n ih =>
    intro d y pc ls st M r h
    unfold exec at h ⊢
    cases hc : G.1 y pc with
    | none => rw [hc] at h; cases h
    | some e =>
      rw [hc] at h
      dsimp only at h ⊢
      cases ho : opF G.2.2.2.2 G.2.2.2.1 d (G.2.1 y) e pc ls st M with
      | none => rw [ho] at h; cases h
      | some o =>
        rw [ho] at h
        try dsimp only at h ⊢
        obtain ⟨pc', ls', st', M'⟩ | r' | ⟨y', as, M', pc', ls', st'⟩ := o
        · exact ih _ _ _ _ _ _ _ h
        · exact h
        · cases d with
          | zero => cases h
          | succ d' =>
            dsimp only at h ⊢
            cases hr : exec G n d' y' 0 (locE G y' as) [] M' with
            | none => rw [hr] at h; cases h
            | some q =>
              rw [hr] at h
              rw [ih _ _ _ _ _ _ _ hr]
              exact ih _ _ _ _ _ _ _ h
theorem exec_le (G : PG) {n k d y pc : Nat} {ls st : List PV} {M : PM} {r : Option PV × PM} (h : exec G n d y pc ls st M = some r) : exec G (n + k) d y pc ls st M = some r := by
  induction k with
  | zero => exact h
  | succ k ih => exact exec_mono G _ _ _ _ _ _ _ _ ih
/-- from here the method comes to its end, and there Q holds -/
def Wp (G : PG) (d y pc : Nat) (ls st : List PV) (M : PM) (Q : Option PV → PM → Prop) : Prop := ∃ n v M', exec G n d y pc ls st M = some (v, M') ∧ Q v M'
/-- a call -/
def Mt (G : PG) (d y : Nat) (as : List PV) (M : PM) (Q : Option PV → PM → Prop) : Prop := Wp G d y 0 (locE G y as) [] M Q
theorem Wp.mono {G : PG} {d y pc : Nat} {ls st : List PV} {M : PM} {Q Q2 : Option PV → PM → Prop} (h : Wp G d y pc ls st M Q) (hq : ∀ v M', Q v M' → Q2 v M') : Wp G d y pc ls st M Q2 := by
  obtain ⟨n, v, M', h1, h2⟩ := h
  exact ⟨n, v, M', h1, hq v M' h2⟩
theorem Mt.mono {G : PG} {d y : Nat} {as : List PV} {M : PM} {Q Q2 : Option PV → PM → Prop} (h : Mt G d y as M Q) (hq : ∀ v M', Q v M' → Q2 v M') : Mt G d y as M Q2 := Wp.mono h hq
def clP (G : PG) (d y : Nat) (Q : Option PV → PM → Prop) (y' : Nat) (as : List PV) (M : PM) (pc : Nat) (ls st : List PV) : Prop := match d with
  | 0 => False
  | d' + 1 => Mt G d' y' as M fun v M2 => Wp G (d' + 1) y pc ls (v.toList ++ st) M2 Q
theorem satO_mono {nx nx2 : Nat → List PV → List PV → PM → Prop} {rt rt2 : Option PV → PM → Prop} {cl cl2 : Nat → List PV → PM → Nat → List PV → List PV → Prop} {o : OUT} (h : satO nx rt cl o) (h1 : ∀ pc ls st M, nx pc ls st M → nx2 pc ls st M) (h2 : ∀ v M, rt v M → rt2 v M)
    (h3 : ∀ y as M pc ls st, cl y as M pc ls st → cl2 y as M pc ls st) : satO nx2 rt2 cl2 o := by
  cases o with
  | none => exact h
  | some o =>
    obtain ⟨pc', ls', st', M'⟩ | ⟨v, M'⟩ | ⟨y', as, M', pc', ls', st'⟩ := o
    · exact h1 _ _ _ _ h
    · exact h2 _ _ h
    · exact h3 _ _ _ _ _ _ h
theorem Wp_sat {G : PG} {d y pc : Nat} {ls st : List PV} {M : PM} {Q : Option PV → PM → Prop} {e : PE} (hc : G.1 y pc = some e)
    (h2 : satO (fun pc ls st M => Wp G d y pc ls st M Q) Q (clP G d y Q) (opF G.2.2.2.2 G.2.2.2.1 d (G.2.1 y) e pc ls st M)) : Wp G d y pc ls st M Q := by
  cases ho : opF G.2.2.2.2 G.2.2.2.1 d (G.2.1 y) e pc ls st M with
  | none => rw [ho] at h2; exact h2.elim
  | some o =>
    rw [ho] at h2
    obtain ⟨pc', ls', st', M'⟩ | ⟨v, M'⟩ | ⟨y', as, M', pc', ls', st'⟩ := o
    · obtain ⟨n, v, M2, h3, h4⟩ := h2
      refine ⟨n + 1, v, M2, ?_, h4⟩
      unfold exec
      rw [hc]
      dsimp only
      rw [ho]
      exact h3
    · refine ⟨1, v, M', ?_, h2⟩
      unfold exec
      rw [hc]
      dsimp only
      rw [ho]
    · cases d with
      | zero => exact (show False from h2).elim
      | succ d' =>
        obtain ⟨n1, v1, M1, h3, n2, v2, M2, h4, h5⟩ := (show Mt G d' y' as M' (fun v M2 => Wp G (d' + 1) y pc' ls' (v.toList ++ st') M2 Q) from h2)
        refine ⟨n1 + n2 + 1, v2, M2, ?_, h5⟩
        unfold exec
        rw [hc]
        dsimp only
        rw [ho]
        dsimp only
        rw [exec_le G (k := n2) h3]
        dsimp only
        rw [Nat.add_comm n1 n2]
        exact exec_le G (k := n1) h4
theorem Wp_step {G : PG} {d y pc : Nat} {ls st : List PV} {M : PM} {Q : Option PV → PM → Prop} {e : PE} (hc : G.1 y pc = some e)
    (h : opP G.2.2.2.2 G.2.2.2.1 (fun pc ls st M => Wp G d y pc ls st M Q) Q (clP G d y Q) d (G.2.1 y) e pc ls st M) : Wp G d y pc ls st M Q := Wp_sat hc (op_sat _ _ _ _ _ _ _ _ _ h)
/-- some steps at once, up to the places that 'cut' names -/
def runP (G : PG) (cut : Nat → Bool) (Q : Option PV → PM → Prop) (d y : Nat) : Nat → Nat → List PV → List PV → PM → Prop
  | 0, pc, ls, st, M => Wp G d y pc ls st M Q
  | k + 1, pc, ls, st, M => match G.1 y pc with
    | none => False
    | some e => opP G.2.2.2.2 G.2.2.2.1 (fun pc' ls' st' M' => match cut pc' with
        | true => Wp G d y pc' ls' st' M' Q
        | false => runP G cut Q d y k pc' ls' st' M') Q
        (fun y' as M' pc' ls' st' => match d with
        | 0 => False
        | d' + 1 => Mt G d' y' as M' fun v M2 => match cut pc' with
          | true => Wp G (d' + 1) y pc' ls' (v.toList ++ st') M2 Q
          | false => runP G cut Q (d' + 1) y k pc' ls' (v.toList ++ st') M2) d (G.2.1 y) e pc ls st M
theorem runP_ok (G : PG) (cut : Nat → Bool) (y : Nat) : ∀ (k d : Nat) (Q : Option PV → PM → Prop) (pc : Nat) (ls st : List PV) (M : PM), runP G cut Q d y k pc ls st M → Wp G d y pc ls st M Q := by
  intro k
  induction k with
  | zero => intro d Q pc ls st M h; exact h
  | succ k ih =>
    intro d Q pc ls st M h
    unfold runP at h
    cases hc : G.1 y pc with
    | none => rw [hc] at h; exact h.elim
    | some e =>
      rw [hc] at h
      refine Wp_sat hc (satO_mono (op_sat _ _ _ _ _ _ _ _ _ h) (fun pc' ls' st' M' h => ?_) (fun _ _ h => h) (fun y' as M' pc' ls' st' h => ?_))
      · try dsimp only at h
        split at h
        · exact h
        · exact ih _ _ _ _ _ _ h
      · cases d with
        | zero => exact h
        | succ d' =>
          refine Mt.mono (show Mt G d' y' as M' _ from h) (fun v M2 h => ?_)
          try dsimp only at h
          split at h
          · exact h
          · exact ih _ _ _ _ _ _ h
/-- a stretch of code at once: what it does, said as a formula -/
theorem Wp_run {G : PG} {d y pc : Nat} {ls st : List PV} {M : PM} {Q : Option PV → PM → Prop} (cut : Nat → Bool) (k : Nat) (h : runP G cut Q d y k pc ls st M) : Wp G d y pc ls st M Q := runP_ok G cut y k d Q pc ls st M h
end
section
-- ===== PART A: goes FIRST, ahead of the names: the tables' words, and 'selects' of the private methods out of them =====
/-- a private method of a class that the tables say can be made, by its rows of tables_1 -/
def lw_okq (q : MethodName × Nat) : Prop := (q.1.cls ≠ "java/lang/invoke/MethodHandle" ∧ q.1.cls ≠ "java/lang/invoke/VarHandle") ∧ Cond.instantiable q.1.cls q.2 ∈ tables_1 ∧ Cond.privateMethod q.1 ∈ tables_1 ∧ Cond.instanceMethod q.1 ∈ tables_1
theorem lw_p0 : lw_okq (⟨"StockEvents$Tape", "wordEnd", "()I"⟩, 7) := ⟨⟨by decide +kernel, by decide +kernel⟩, List.mem_of_getElem? (i := 35) (by decide +kernel), List.mem_of_getElem? (i := 299) (by decide +kernel), List.mem_of_getElem? (i := 300) (by decide +kernel)⟩
theorem lw_p1 : lw_okq (⟨"StockEvents$Tape", "isSame", "(Ljava/lang/String;III)Z"⟩, 7) := ⟨⟨by decide +kernel, by decide +kernel⟩, List.mem_of_getElem? (i := 35) (by decide +kernel), List.mem_of_getElem? (i := 342) (by decide +kernel), List.mem_of_getElem? (i := 343) (by decide +kernel)⟩
theorem lw_p2 : lw_okq (⟨"StockEvents$Tape", "fail", "(I)V"⟩, 7) := ⟨⟨by decide +kernel, by decide +kernel⟩, List.mem_of_getElem? (i := 35) (by decide +kernel), List.mem_of_getElem? (i := 346) (by decide +kernel), List.mem_of_getElem? (i := 347) (by decide +kernel)⟩
theorem lw_p3 : lw_okq (⟨"StockEvents$Tape", "peek", "()I"⟩, 7) := ⟨⟨by decide +kernel, by decide +kernel⟩, List.mem_of_getElem? (i := 35) (by decide +kernel), List.mem_of_getElem? (i := 381) (by decide +kernel), List.mem_of_getElem? (i := 382) (by decide +kernel)⟩
theorem lw_p4 : lw_okq (⟨"StockEvents$Tape", "part", "(II)V"⟩, 7) := ⟨⟨by decide +kernel, by decide +kernel⟩, List.mem_of_getElem? (i := 35) (by decide +kernel), List.mem_of_getElem? (i := 389) (by decide +kernel), List.mem_of_getElem? (i := 390) (by decide +kernel)⟩
theorem lw_p5 : lw_okq (⟨"StockEvents$Tape", "operand", "(I)V"⟩, 7) := ⟨⟨by decide +kernel, by decide +kernel⟩, List.mem_of_getElem? (i := 35) (by decide +kernel), List.mem_of_getElem? (i := 393) (by decide +kernel), List.mem_of_getElem? (i := 394) (by decide +kernel)⟩
theorem lw_p6 : lw_okq (⟨"StockEvents$Tape", "emit", "(I)V"⟩, 7) := ⟨⟨by decide +kernel, by decide +kernel⟩, List.mem_of_getElem? (i := 35) (by decide +kernel), List.mem_of_getElem? (i := 404) (by decide +kernel), List.mem_of_getElem? (i := 405) (by decide +kernel)⟩
theorem lw_p7 : lw_okq (⟨"StockEvents$Tape", "letter", "()V"⟩, 7) := ⟨⟨by decide +kernel, by decide +kernel⟩, List.mem_of_getElem? (i := 35) (by decide +kernel), List.mem_of_getElem? (i := 408) (by decide +kernel), List.mem_of_getElem? (i := 409) (by decide +kernel)⟩
theorem lw_p8 : lw_okq (⟨"StockEvents$Store", "tell", "(I)V"⟩, 15) := ⟨⟨by decide +kernel, by decide +kernel⟩, List.mem_of_getElem? (i := 111) (by decide +kernel), List.mem_of_getElem? (i := 513) (by decide +kernel), List.mem_of_getElem? (i := 514) (by decide +kernel)⟩
theorem lw_p9 : lw_okq (⟨"StockEvents$Store", "carry", "(ILStockEvents$Command;I)I"⟩, 15) := ⟨⟨by decide +kernel, by decide +kernel⟩, List.mem_of_getElem? (i := 111) (by decide +kernel), List.mem_of_getElem? (i := 521) (by decide +kernel), List.mem_of_getElem? (i := 522) (by decide +kernel)⟩
theorem lw_p10 : lw_okq (⟨"StockEvents$Store", "come", "(IIII)V"⟩, 15) := ⟨⟨by decide +kernel, by decide +kernel⟩, List.mem_of_getElem? (i := 111) (by decide +kernel), List.mem_of_getElem? (i := 541) (by decide +kernel), List.mem_of_getElem? (i := 542) (by decide +kernel)⟩
theorem lw_p11 : lw_okq (⟨"StockEvents$Log", "put", "(II)V"⟩, 5) := ⟨⟨by decide +kernel, by decide +kernel⟩, List.mem_of_getElem? (i := 117) (by decide +kernel), List.mem_of_getElem? (i := 554) (by decide +kernel), List.mem_of_getElem? (i := 555) (by decide +kernel)⟩
theorem lw_p12 : lw_okq (⟨"StockEvents$Bins", "put", "(III)V"⟩, 1) := ⟨⟨by decide +kernel, by decide +kernel⟩, List.mem_of_getElem? (i := 75) (by decide +kernel), List.mem_of_getElem? (i := 562) (by decide +kernel), List.mem_of_getElem? (i := 563) (by decide +kernel)⟩
theorem lw_p13 : lw_okq (⟨"StockEvents$Bins", "more", "(III)V"⟩, 1) := ⟨⟨by decide +kernel, by decide +kernel⟩, List.mem_of_getElem? (i := 75) (by decide +kernel), List.mem_of_getElem? (i := 566) (by decide +kernel), List.mem_of_getElem? (i := 567) (by decide +kernel)⟩
theorem lw_p14 : lw_okq (⟨"StockEvents$Snapshots", "dropOldest", "(I)V"⟩, 3) := ⟨⟨by decide +kernel, by decide +kernel⟩, List.mem_of_getElem? (i := 180) (by decide +kernel), List.mem_of_getElem? (i := 574) (by decide +kernel), List.mem_of_getElem? (i := 575) (by decide +kernel)⟩
theorem lw_p15 : lw_okq (⟨"StockEvents$Batch", "carry", "(ILStockEvents$Command;)V"⟩, 7) := ⟨⟨by decide +kernel, by decide +kernel⟩, List.mem_of_getElem? (i := 67) (by decide +kernel), List.mem_of_getElem? (i := 618) (by decide +kernel), List.mem_of_getElem? (i := 619) (by decide +kernel)⟩
def lw_privs_1 : List (MethodName × Nat) := [(⟨"StockEvents$Tape", "wordEnd", "()I"⟩, 7), (⟨"StockEvents$Tape", "isSame", "(Ljava/lang/String;III)Z"⟩, 7), (⟨"StockEvents$Tape", "fail", "(I)V"⟩, 7), (⟨"StockEvents$Tape", "peek", "()I"⟩, 7), (⟨"StockEvents$Tape", "part", "(II)V"⟩, 7), (⟨"StockEvents$Tape", "operand", "(I)V"⟩, 7), (⟨"StockEvents$Tape", "emit", "(I)V"⟩, 7), (⟨"StockEvents$Tape", "letter", "()V"⟩, 7), (⟨"StockEvents$Store", "tell", "(I)V"⟩, 15), (⟨"StockEvents$Store", "carry", "(ILStockEvents$Command;I)I"⟩, 15), (⟨"StockEvents$Store", "come", "(IIII)V"⟩, 15), (⟨"StockEvents$Log", "put", "(II)V"⟩, 5), (⟨"StockEvents$Bins", "put", "(III)V"⟩, 1), (⟨"StockEvents$Bins", "more", "(III)V"⟩, 1), (⟨"StockEvents$Snapshots", "dropOldest", "(I)V"⟩, 3), (⟨"StockEvents$Batch", "carry", "(ILStockEvents$Command;)V"⟩, 7)]
theorem lw_r1 : ∀ q ∈ lw_privs_1, lw_okq q := List.forall_mem_cons.mpr ⟨lw_p0, List.forall_mem_cons.mpr ⟨lw_p1, List.forall_mem_cons.mpr ⟨lw_p2, List.forall_mem_cons.mpr ⟨lw_p3, List.forall_mem_cons.mpr ⟨lw_p4, List.forall_mem_cons.mpr ⟨lw_p5, List.forall_mem_cons.mpr ⟨lw_p6, List.forall_mem_cons.mpr ⟨lw_p7, List.forall_mem_cons.mpr ⟨lw_p8, List.forall_mem_cons.mpr ⟨lw_p9, List.forall_mem_cons.mpr ⟨lw_p10, List.forall_mem_cons.mpr ⟨lw_p11, List.forall_mem_cons.mpr ⟨lw_p12, List.forall_mem_cons.mpr ⟨lw_p13, List.forall_mem_cons.mpr ⟨lw_p14, List.forall_mem_cons.mpr ⟨lw_p15, fun _ h => absurd h List.not_mem_nil⟩⟩⟩⟩⟩⟩⟩⟩⟩⟩⟩⟩⟩⟩⟩⟩
theorem lw_p16 : lw_okq (⟨"StockEvents$Store", "changePast", "(I)V"⟩, 15) := ⟨⟨by decide +kernel, by decide +kernel⟩, List.mem_of_getElem? (i := 111) (by decide +kernel), List.mem_of_getElem? (i := 652) (by decide +kernel), List.mem_of_getElem? (i := 653) (by decide +kernel)⟩
theorem lw_p17 : lw_okq (⟨"StockEvents$Formats", "change", "(LStockEvents$Formula;LStockEvents$Formula;)V"⟩, 5) := ⟨⟨by decide +kernel, by decide +kernel⟩, List.mem_of_getElem? (i := 142) (by decide +kernel), List.mem_of_getElem? (i := 669) (by decide +kernel), List.mem_of_getElem? (i := 670) (by decide +kernel)⟩
theorem lw_p18 : lw_okq (⟨"StockEvents$Store", "handle", "(LStockEvents$Projection;I)V"⟩, 15) := ⟨⟨by decide +kernel, by decide +kernel⟩, List.mem_of_getElem? (i := 111) (by decide +kernel), List.mem_of_getElem? (i := 785) (by decide +kernel), List.mem_of_getElem? (i := 786) (by decide +kernel)⟩
theorem lw_p19 : lw_okq (⟨"StockEvents$Projection", "folded", "(II)I"⟩, 7) := ⟨⟨by decide +kernel, by decide +kernel⟩, List.mem_of_getElem? (i := 733) (by decide +kernel), List.mem_of_getElem? (i := 798) (by decide +kernel), List.mem_of_getElem? (i := 799) (by decide +kernel)⟩
theorem lw_p20 : lw_okq (⟨"StockEvents$Store", "hasHandled", "(LStockEvents$Policy;I)Z"⟩, 15) := ⟨⟨by decide +kernel, by decide +kernel⟩, List.mem_of_getElem? (i := 111) (by decide +kernel), List.mem_of_getElem? (i := 886) (by decide +kernel), List.mem_of_getElem? (i := 887) (by decide +kernel)⟩
theorem lw_p21 : lw_okq (⟨"StockEvents", "isVersion", "(II)Z"⟩, 5) := ⟨⟨by decide +kernel, by decide +kernel⟩, List.mem_of_getElem? (i := 27) (by decide +kernel), List.mem_of_getElem? (i := 1192) (by decide +kernel), List.mem_of_getElem? (i := 1193) (by decide +kernel)⟩
theorem lw_p22 : lw_okq (⟨"StockEvents$Snapshots", "isGood", "(II)Z"⟩, 3) := ⟨⟨by decide +kernel, by decide +kernel⟩, List.mem_of_getElem? (i := 180) (by decide +kernel), List.mem_of_getElem? (i := 1213) (by decide +kernel), List.mem_of_getElem? (i := 1214) (by decide +kernel)⟩
def lw_privs_2 : List (MethodName × Nat) := [(⟨"StockEvents$Store", "changePast", "(I)V"⟩, 15), (⟨"StockEvents$Formats", "change", "(LStockEvents$Formula;LStockEvents$Formula;)V"⟩, 5), (⟨"StockEvents$Store", "handle", "(LStockEvents$Projection;I)V"⟩, 15), (⟨"StockEvents$Projection", "folded", "(II)I"⟩, 7), (⟨"StockEvents$Store", "hasHandled", "(LStockEvents$Policy;I)Z"⟩, 15), (⟨"StockEvents", "isVersion", "(II)Z"⟩, 5), (⟨"StockEvents$Snapshots", "isGood", "(II)Z"⟩, 3)]
theorem lw_r2 : ∀ q ∈ lw_privs_2, lw_okq q := List.forall_mem_cons.mpr ⟨lw_p16, List.forall_mem_cons.mpr ⟨lw_p17, List.forall_mem_cons.mpr ⟨lw_p18, List.forall_mem_cons.mpr ⟨lw_p19, List.forall_mem_cons.mpr ⟨lw_p20, List.forall_mem_cons.mpr ⟨lw_p21, List.forall_mem_cons.mpr ⟨lw_p22, fun _ h => absurd h List.not_mem_nil⟩⟩⟩⟩⟩⟩⟩
def lw_privs : List (MethodName × Nat) := lw_privs_1 ++ (lw_privs_2)
def lw_tbl : List Cond := k2_sels lw_privs ++ tables_1
theorem lw_privs_ok : ∀ q ∈ lw_privs, lw_okq q := by
  show ∀ q ∈ lw_privs_1 ++ (lw_privs_2), lw_okq q
  exact List.forall_mem_append.mpr ⟨lw_r1, lw_r2⟩
end
section
def RX0 : String := "StockEvents$Batch"
def TX0 : u_T := fun k => match k with
  | 0 => ("StockEvents$Batch", "streams", "[I", true)
  | 1 => ("StockEvents$Batch", "commands", "[LStockEvents$Command;", true)
  | 2 => ("StockEvents$Batch", "bins", "LStockEvents$Bins;", true)
  | 3 => ("StockEvents$Batch", "size", "I", false)
  | 4 => ("StockEvents$Batch", "through", "I", false)
  | 5 => ("StockEvents$Batch", "events", "I", false)
  | _ => ("StockEvents$Batch", "refused", "Z", false)
def tyX0 : Nat → FieldType := fun k => match k with
  | 0 => .array .int
  | 1 => .array (.object "StockEvents$Command")
  | 2 => .object "StockEvents$Bins"
  | 3 => .int
  | 4 => .int
  | 5 => .int
  | _ => .boolean
theorem nmX0 : ∀ a, a < 7 → ∀ b, b < 7 → a ≠ b → (TX0 a).2.1 ≠ (TX0 b).2.1 := by decide +kernel
theorem tyX0_ok : ∀ k, k < 7 → parseFieldDescriptor (TX0 k).2.2.1 = some (tyX0 k) := by decide +kernel
def RX1 : String := "StockEvents$Bins"
def TX1 : u_T := fun k => match k with
  | _ => ("StockEvents$Bins", "cells", "[I", true)
def tyX1 : Nat → FieldType := fun k => match k with
  | _ => .array .int
theorem nmX1 : ∀ a, a < 1 → ∀ b, b < 1 → a ≠ b → (TX1 a).2.1 ≠ (TX1 b).2.1 := by decide +kernel
theorem tyX1_ok : ∀ k, k < 1 → parseFieldDescriptor (TX1 k).2.2.1 = some (tyX1 k) := by decide +kernel
def RX2 : String := "StockEvents$Command"
def TX2 : u_T := fun k => match k with
  | 0 => ("StockEvents$Command", "kind", "I", true)
  | 1 => ("StockEvents$Command", "amount", "I", true)
  | 2 => ("StockEvents$Command", "target", "I", true)
  | _ => ("StockEvents$Command", "formula", "LStockEvents$Formula;", true)
def tyX2 : Nat → FieldType := fun k => match k with
  | 0 => .int
  | 1 => .int
  | 2 => .int
  | _ => .object "StockEvents$Formula"
theorem nmX2 : ∀ a, a < 4 → ∀ b, b < 4 → a ≠ b → (TX2 a).2.1 ≠ (TX2 b).2.1 := by decide +kernel
theorem tyX2_ok : ∀ k, k < 4 → parseFieldDescriptor (TX2 k).2.2.1 = some (tyX2 k) := by decide +kernel
def RX3 : String := "StockEvents$Formats"
def TX3 : u_T := fun k => match k with
  | 0 => ("StockEvents$Formats", "sizes", "[I", true)
  | 1 => ("StockEvents$Formats", "toA", "[LStockEvents$Formula;", true)
  | 2 => ("StockEvents$Formats", "toB", "[LStockEvents$Formula;", true)
  | 3 => ("StockEvents$Formats", "letters", "[I", true)
  | _ => ("StockEvents$Formats", "era", "I", false)
def tyX3 : Nat → FieldType := fun k => match k with
  | 0 => .array .int
  | 1 => .array (.object "StockEvents$Formula")
  | 2 => .array (.object "StockEvents$Formula")
  | 3 => .array .int
  | _ => .int
theorem nmX3 : ∀ a, a < 5 → ∀ b, b < 5 → a ≠ b → (TX3 a).2.1 ≠ (TX3 b).2.1 := by decide +kernel
theorem tyX3_ok : ∀ k, k < 5 → parseFieldDescriptor (TX3 k).2.2.1 = some (tyX3 k) := by decide +kernel
def RX4 : String := "StockEvents$Formula"
def TX4 : u_T := fun k => match k with
  | 0 => ("StockEvents$Formula", "code", "[I", true)
  | _ => ("StockEvents$Formula", "stack", "[I", true)
def tyX4 : Nat → FieldType := fun k => match k with
  | 0 => .array .int
  | _ => .array .int
theorem nmX4 : ∀ a, a < 2 → ∀ b, b < 2 → a ≠ b → (TX4 a).2.1 ≠ (TX4 b).2.1 := by decide +kernel
theorem tyX4_ok : ∀ k, k < 2 → parseFieldDescriptor (TX4 k).2.2.1 = some (tyX4 k) := by decide +kernel
def RX5 : String := "StockEvents$Log"
def TX5 : u_T := fun k => match k with
  | 0 => ("StockEvents$Log", "cells", "[I", true)
  | 1 => ("StockEvents$Log", "versions", "[I", true)
  | 2 => ("StockEvents$Log", "line", "[I", true)
  | 3 => ("StockEvents$Log", "lineLength", "I", false)
  | _ => ("StockEvents$Log", "length", "I", false)
def tyX5 : Nat → FieldType := fun k => match k with
  | 0 => .array .int
  | 1 => .array .int
  | 2 => .array .int
  | 3 => .int
  | _ => .int
theorem nmX5 : ∀ a, a < 5 → ∀ b, b < 5 → a ≠ b → (TX5 a).2.1 ≠ (TX5 b).2.1 := by decide +kernel
theorem tyX5_ok : ∀ k, k < 5 → parseFieldDescriptor (TX5 k).2.2.1 = some (tyX5 k) := by decide +kernel
def RX6 : String := "StockEvents$Policy"
def TX6 : u_T := fun k => match k with
  | 0 => ("StockEvents$Policy", "kinds", "I", true)
  | 1 => ("StockEvents$Policy", "condition", "LStockEvents$Formula;", true)
  | 2 => ("StockEvents$Policy", "command", "LStockEvents$Command;", true)
  | 3 => ("StockEvents$Policy", "checkpoint", "I", false)
  | 4 => ("StockEvents$Policy", "done", "I", false)
  | _ => ("StockEvents$Policy", "refused", "I", false)
def tyX6 : Nat → FieldType := fun k => match k with
  | 0 => .int
  | 1 => .object "StockEvents$Formula"
  | 2 => .object "StockEvents$Command"
  | 3 => .int
  | 4 => .int
  | _ => .int
theorem nmX6 : ∀ a, a < 6 → ∀ b, b < 6 → a ≠ b → (TX6 a).2.1 ≠ (TX6 b).2.1 := by decide +kernel
theorem tyX6_ok : ∀ k, k < 6 → parseFieldDescriptor (TX6 k).2.2.1 = some (tyX6 k) := by decide +kernel
def RX7 : String := "StockEvents$Projection"
def TX7 : u_T := fun k => match k with
  | 0 => ("StockEvents$Projection", "fold", "I", true)
  | 1 => ("StockEvents$Projection", "kinds", "I", true)
  | 2 => ("StockEvents$Projection", "key", "I", true)
  | 3 => ("StockEvents$Projection", "condition", "LStockEvents$Formula;", true)
  | 4 => ("StockEvents$Projection", "rows", "[I", true)
  | 5 => ("StockEvents$Projection", "present", "I", false)
  | _ => ("StockEvents$Projection", "checkpoint", "I", false)
def tyX7 : Nat → FieldType := fun k => match k with
  | 0 => .int
  | 1 => .int
  | 2 => .int
  | 3 => .object "StockEvents$Formula"
  | 4 => .array .int
  | 5 => .int
  | _ => .int
theorem nmX7 : ∀ a, a < 7 → ∀ b, b < 7 → a ≠ b → (TX7 a).2.1 ≠ (TX7 b).2.1 := by decide +kernel
theorem tyX7_ok : ∀ k, k < 7 → parseFieldDescriptor (TX7 k).2.2.1 = some (tyX7 k) := by decide +kernel
def RX8 : String := "StockEvents$Snapshots"
def TX8 : u_T := fun k => match k with
  | 0 => ("StockEvents$Snapshots", "versions", "[I", true)
  | 1 => ("StockEvents$Snapshots", "eras", "[I", true)
  | _ => ("StockEvents$Snapshots", "sizes", "[I", true)
def tyX8 : Nat → FieldType := fun k => match k with
  | 0 => .array .int
  | 1 => .array .int
  | _ => .array .int
theorem nmX8 : ∀ a, a < 3 → ∀ b, b < 3 → a ≠ b → (TX8 a).2.1 ≠ (TX8 b).2.1 := by decide +kernel
theorem tyX8_ok : ∀ k, k < 3 → parseFieldDescriptor (TX8 k).2.2.1 = some (tyX8 k) := by decide +kernel
def RX9 : String := "StockEvents$Store"
def TX9 : u_T := fun k => match k with
  | 0 => ("StockEvents$Store", "log", "LStockEvents$Log;", true)
  | 1 => ("StockEvents$Store", "bins", "LStockEvents$Bins;", true)
  | 2 => ("StockEvents$Store", "past", "LStockEvents$Bins;", true)
  | 3 => ("StockEvents$Store", "formats", "LStockEvents$Formats;", true)
  | 4 => ("StockEvents$Store", "snapshots", "LStockEvents$Snapshots;", true)
  | 5 => ("StockEvents$Store", "answers", "[I", true)
  | 6 => ("StockEvents$Store", "live", "[LStockEvents$Projection;", true)
  | 7 => ("StockEvents$Store", "beside", "[LStockEvents$Projection;", true)
  | 8 => ("StockEvents$Store", "policies", "[LStockEvents$Policy;", true)
  | 9 => ("StockEvents$Store", "seenStream", "[I", true)
  | 10 => ("StockEvents$Store", "seenVersion", "[I", true)
  | 11 => ("StockEvents$Store", "led", "[I", true)
  | 12 => ("StockEvents$Store", "stateLetters", "[I", true)
  | 13 => ("StockEvents$Store", "every", "I", false)
  | _ => ("StockEvents$Store", "harmless", "I", false)
def tyX9 : Nat → FieldType := fun k => match k with
  | 0 => .object "StockEvents$Log"
  | 1 => .object "StockEvents$Bins"
  | 2 => .object "StockEvents$Bins"
  | 3 => .object "StockEvents$Formats"
  | 4 => .object "StockEvents$Snapshots"
  | 5 => .array .int
  | 6 => .array (.object "StockEvents$Projection")
  | 7 => .array (.object "StockEvents$Projection")
  | 8 => .array (.object "StockEvents$Policy")
  | 9 => .array .int
  | 10 => .array .int
  | 11 => .array .int
  | 12 => .array .int
  | 13 => .int
  | _ => .int
theorem nmX9 : ∀ a, a < 15 → ∀ b, b < 15 → a ≠ b → (TX9 a).2.1 ≠ (TX9 b).2.1 := by decide +kernel
theorem tyX9_ok : ∀ k, k < 15 → parseFieldDescriptor (TX9 k).2.2.1 = some (tyX9 k) := by decide +kernel
def RX10 : String := "StockEvents$Tape"
def TX10 : u_T := fun k => match k with
  | 0 => ("StockEvents$Tape", "bytes", "[I", true)
  | 1 => ("StockEvents$Tape", "code", "[I", true)
  | 2 => ("StockEvents$Tape", "letters", "Ljava/lang/String;", false)
  | 3 => ("StockEvents$Tape", "codeLength", "I", false)
  | 4 => ("StockEvents$Tape", "length", "I", false)
  | 5 => ("StockEvents$Tape", "place", "I", false)
  | _ => ("StockEvents$Tape", "fault", "I", false)
def tyX10 : Nat → FieldType := fun k => match k with
  | 0 => .array .int
  | 1 => .array .int
  | 2 => .object "java/lang/String"
  | 3 => .int
  | 4 => .int
  | 5 => .int
  | _ => .int
theorem nmX10 : ∀ a, a < 7 → ∀ b, b < 7 → a ≠ b → (TX10 a).2.1 ≠ (TX10 b).2.1 := by decide +kernel
theorem tyX10_ok : ∀ k, k < 7 → parseFieldDescriptor (TX10 k).2.2.1 = some (tyX10 k) := by decide +kernel
def RX11 : String := "StockEvents"
def TX11 : u_T := fun k => match k with
  | 0 => ("StockEvents", "tape", "LStockEvents$Tape;", true)
  | 1 => ("StockEvents", "lines", "LStockEvents$Batch;", true)
  | 2 => ("StockEvents", "store", "LStockEvents$Store;", true)
  | 3 => ("StockEvents", "kept", "LStockEvents$Store;", true)
  | _ => ("StockEvents", "imaged", "Z", false)
def tyX11 : Nat → FieldType := fun k => match k with
  | 0 => .object "StockEvents$Tape"
  | 1 => .object "StockEvents$Batch"
  | 2 => .object "StockEvents$Store"
  | 3 => .object "StockEvents$Store"
  | _ => .boolean
theorem nmX11 : ∀ a, a < 5 → ∀ b, b < 5 → a ≠ b → (TX11 a).2.1 ≠ (TX11 b).2.1 := by decide +kernel
theorem tyX11_ok : ∀ k, k < 5 → parseFieldDescriptor (TX11 k).2.2.1 = some (tyX11 k) := by decide +kernel
def RJ4 : String := "java/lang/StringBuilder"
def TJ4 : u_T := fun k => match k with
  | 0 => ("java/lang/AbstractStringBuilder", "value", "[B", false)
  | 1 => ("java/lang/AbstractStringBuilder", "coder", "B", false)
  | 2 => ("java/lang/AbstractStringBuilder", "maybeLatin1", "Z", false)
  | _ => ("java/lang/AbstractStringBuilder", "count", "I", false)
def tyJ4 : Nat → FieldType := fun k => match k with
  | 0 => .array .byte
  | 1 => .byte
  | 2 => .boolean
  | _ => .int
theorem nmJ4 : ∀ a, a < 4 → ∀ b, b < 4 → a ≠ b → (TJ4 a).2.1 ≠ (TJ4 b).2.1 := by decide +kernel
theorem tyJ4_ok : ∀ k, k < 4 → parseFieldDescriptor (TJ4 k).2.2.1 = some (tyJ4 k) := by decide +kernel
def RJ0 : String := "java/lang/String"
def TJ0 : u_T := fun k => match k with
  | 0 => ("java/lang/String", "value", "[B", true)
  | 1 => ("java/lang/String", "coder", "B", true)
  | 2 => ("java/lang/String", "hash", "I", false)
  | _ => ("java/lang/String", "hashIsZero", "Z", false)
def tyJ0 : Nat → FieldType := fun k => match k with
  | 0 => .array .byte
  | 1 => .byte
  | 2 => .int
  | _ => .boolean
theorem nmJ0 : ∀ a, a < 4 → ∀ b, b < 4 → a ≠ b → (TJ0 a).2.1 ≠ (TJ0 b).2.1 := by decide +kernel
theorem tyJ0_ok : ∀ k, k < 4 → parseFieldDescriptor (TJ0 k).2.2.1 = some (tyJ0 k) := by decide +kernel
abbrev vwCl : List vw_C := [(RX0, TX0, 7), (RX1, TX1, 1), (RX2, TX2, 4), (RX3, TX3, 5), (RX4, TX4, 2), (RX5, TX5, 5), (RX6, TX6, 6), (RX7, TX7, 7), (RX8, TX8, 3), (RX9, TX9, 15), (RX10, TX10, 7), (RX11, TX11, 5), (RJ4, TJ4, 4), (RJ0, TJ0, 4)]
def cNmL : List String := ["StockEvents$Batch", "StockEvents$Bins", "StockEvents$Command", "StockEvents$Formats", "StockEvents$Formula", "StockEvents$Log", "StockEvents$Policy", "StockEvents$Projection", "StockEvents$Snapshots", "StockEvents$Store", "StockEvents$Tape", "StockEvents", "java/lang/StringBuilder", "java/lang/String", "java/lang/StringLatin1", "java/lang/Integer", "java/lang/Math", "java/util/Arrays", "StockEventsLaw", "java/lang/AbstractStringBuilder", "jdk/internal/util/ArraysSupport"]
def cNm (c : Nat) : String := cNmL.getD c ""
/-! methods: name, bytecode, locals, what is returned -/
def mtd_0 : List (MethodName × ByteArray × Nat × Option FieldType) := [(⟨"StockEvents", "<init>", "()V"⟩, prog_1_method_1_code, 1, none),
  (⟨"StockEvents$Tape", "<init>", "()V"⟩, prog_12_method_1_code, 1, none),
  (⟨"StockEvents$Batch", "<init>", "()V"⟩, prog_2_method_1_code, 1, none),
  (⟨"StockEvents$Bins", "<init>", "()V"⟩, prog_3_method_1_code, 1, none),
  (⟨"StockEvents$Store", "<init>", "()V"⟩, prog_11_method_1_code, 1, none),
  (⟨"StockEvents$Log", "<init>", "()V"⟩, prog_7_method_1_code, 1, none),
  (⟨"StockEvents$Formats", "<init>", "()V"⟩, prog_5_method_1_code, 1, none),
  (⟨"java/lang/String", "length", "()I"⟩, prog_21_method_54_code, 1, (some FieldType.int)),
  (⟨"java/lang/String", "coder", "()B"⟩, prog_21_method_152_code, 1, (some FieldType.byte)),
  (⟨"StockEvents$Snapshots", "<init>", "()V"⟩, prog_10_method_1_code, 1, none),
  (⟨"java/util/Arrays", "fill", "([II)V"⟩, prog_26_method_103_code, 4, none),
  (⟨"StockEvents", "feed", "(I)I"⟩, prog_1_method_2_code, 2, (some FieldType.int)),
  (⟨"StockEvents", "within", "(III)Z"⟩, prog_1_method_39_code, 3, (some FieldType.boolean)),
  (⟨"StockEvents$Tape", "add", "(I)I"⟩, prog_12_method_2_code, 2, (some FieldType.int)),
  (⟨"StockEvents", "ask", "(III)I"⟩, prog_1_method_3_code, 6, (some FieldType.int)),
  (⟨"StockEvents", "isStream", "(I)Z"⟩, prog_1_method_37_code, 1, (some FieldType.boolean)),
  (⟨"StockEvents$Tape", "begin", "()V"⟩, prog_12_method_3_code, 1, none),
  (⟨"StockEvents$Tape", "command", "(Z)LStockEvents$Command;"⟩, prog_12_method_19_code, 6, (some (FieldType.object "StockEvents$Command"))),
  (⟨"StockEvents$Tape", "word", "(Ljava/lang/String;)I"⟩, prog_12_method_8_code, 7, (some FieldType.int)),
  (⟨"StockEvents$Tape", "wordEnd", "()I"⟩, prog_12_method_9_code, 2, (some FieldType.int)),
  (⟨"java/lang/String", "charAt", "(I)C"⟩, prog_21_method_56_code, 2, (some FieldType.char)),
  (⟨"java/lang/String", "isLatin1", "()Z"⟩, prog_21_method_154_code, 1, (some FieldType.boolean)),
  (⟨"java/lang/StringLatin1", "charAt", "([BI)C"⟩, prog_23_method_2_code, 2, (some FieldType.char)),
  (⟨"StockEvents$Tape", "isSame", "(Ljava/lang/String;III)Z"⟩, prog_12_method_10_code, 7, (some FieldType.boolean)),
  (⟨"StockEvents$Tape", "fail", "(I)V"⟩, prog_12_method_5_code, 2, none),
  (⟨"StockEvents$Command", "<init>", "(IIILStockEvents$Formula;)V"⟩, prog_4_method_1_code, 5, none),
  (⟨"StockEvents$Tape", "take", "(I)V"⟩, prog_12_method_7_code, 2, none),
  (⟨"StockEvents$Tape", "peek", "()I"⟩, prog_12_method_6_code, 1, (some FieldType.int)),
  (⟨"StockEvents$Tape", "formula", "(Ljava/lang/String;I)LStockEvents$Formula;"⟩, prog_12_method_13_code, 3, (some (FieldType.object "StockEvents$Formula"))),
  (⟨"StockEvents$Tape", "part", "(II)V"⟩, prog_12_method_14_code, 6, none),
  (⟨"StockEvents$Tape", "operand", "(I)V"⟩, prog_12_method_16_code, 3, none),
  (⟨"StockEvents$Tape", "isFigure", "(I)Z"⟩, prog_12_method_12_code, 1, (some FieldType.boolean)),
  (⟨"StockEvents$Tape", "number", "(I)I"⟩, prog_12_method_11_code, 5, (some FieldType.int)),
  (⟨"StockEvents$Tape", "emit", "(I)V"⟩, prog_12_method_18_code, 2, none),
  (⟨"StockEvents$Tape", "letter", "()V"⟩, prog_12_method_17_code, 2, none),
  (⟨"java/lang/String", "indexOf", "(I)I"⟩, prog_21_method_79_code, 2, (some FieldType.int)),
  (⟨"java/lang/String", "indexOf", "(II)I"⟩, prog_21_method_80_code, 3, (some FieldType.int)),
  (⟨"java/lang/StringLatin1", "indexOf", "([BIII)I"⟩, prog_23_method_22_code, 4, (some FieldType.int)),
  (⟨"java/lang/StringLatin1", "canEncode", "(I)Z"⟩, prog_23_method_4_code, 1, (some FieldType.boolean)),
  (⟨"java/lang/Math", "max", "(II)I"⟩, prog_19_method_65_code, 2, (some FieldType.int))]
def mtd_1 : List (MethodName × ByteArray × Nat × Option FieldType) := [(⟨"java/lang/Math", "min", "(II)I"⟩, prog_19_method_69_code, 2, (some FieldType.int)),
  (⟨"java/lang/StringLatin1", "indexOfChar", "([BIII)I"⟩, prog_23_method_23_code, 6, (some FieldType.int)),
  (⟨"StockEvents$Tape", "signsOf", "(I)Ljava/lang/String;"⟩, prog_12_method_15_code, 1, (some (FieldType.object "java/lang/String"))),
  (⟨"java/util/Arrays", "copyOf", "([II)[I"⟩, prog_26_method_123_code, 3, (some (FieldType.array FieldType.int))),
  (⟨"StockEvents$Formula", "<init>", "([I)V"⟩, prog_6_method_1_code, 2, none),
  (⟨"StockEvents$Tape", "end", "()I"⟩, prog_12_method_4_code, 1, (some FieldType.int)),
  (⟨"StockEvents$Store", "asked", "(IIILStockEvents$Command;)I"⟩, prog_11_method_4_code, 7, (some FieldType.int)),
  (⟨"StockEvents$Store", "tell", "(I)V"⟩, prog_11_method_3_code, 2, none),
  (⟨"StockEvents$Log", "versionOf", "(I)I"⟩, prog_7_method_6_code, 2, (some FieldType.int)),
  (⟨"StockEvents$Store", "carry", "(ILStockEvents$Command;I)I"⟩, prog_11_method_5_code, 5, (some FieldType.int)),
  (⟨"StockEvents$Bins", "refusal", "(ILStockEvents$Command;I)I"⟩, prog_3_method_8_code, 6, (some FieldType.int)),
  (⟨"StockEvents$Bins", "get", "(II)I"⟩, prog_3_method_4_code, 4, (some FieldType.int)),
  (⟨"StockEvents$Command", "events", "()I"⟩, prog_4_method_2_code, 1, (some FieldType.int)),
  (⟨"StockEvents$Log", "room", "()I"⟩, prog_7_method_4_code, 1, (some FieldType.int)),
  (⟨"StockEvents$Store", "come", "(IIII)V"⟩, prog_11_method_6_code, 6, none),
  (⟨"StockEvents$Formats", "formatOf", "(I)I"⟩, prog_5_method_3_code, 2, (some FieldType.int)),
  (⟨"StockEvents$Log", "add", "(IIIII)V"⟩, prog_7_method_7_code, 6, none),
  (⟨"StockEvents$Log", "put", "(II)V"⟩, prog_7_method_8_code, 4, none),
  (⟨"StockEvents$Bins", "change", "(III)V"⟩, prog_3_method_7_code, 4, none),
  (⟨"StockEvents$Bins", "put", "(III)V"⟩, prog_3_method_5_code, 5, none),
  (⟨"StockEvents$Bins", "more", "(III)V"⟩, prog_3_method_6_code, 4, none),
  (⟨"StockEvents$Snapshots", "add", "(III)V"⟩, prog_10_method_3_code, 6, none),
  (⟨"StockEvents$Snapshots", "dropOldest", "(I)V"⟩, prog_10_method_4_code, 3, none),
  (⟨"StockEvents", "batch", "()I"⟩, prog_1_method_4_code, 2, (some FieldType.int)),
  (⟨"StockEvents$Tape", "readLines", "(LStockEvents$Batch;)V"⟩, prog_12_method_20_code, 4, none),
  (⟨"StockEvents$Batch", "clear", "()V"⟩, prog_2_method_2_code, 1, none),
  (⟨"StockEvents$Batch", "add", "(ILStockEvents$Command;)V"⟩, prog_2_method_3_code, 3, none),
  (⟨"StockEvents$Store", "carryAll", "(LStockEvents$Batch;)I"⟩, prog_11_method_7_code, 4, (some FieldType.int)),
  (⟨"StockEvents$Batch", "think", "(LStockEvents$Bins;I)V"⟩, prog_2_method_6_code, 5, none),
  (⟨"StockEvents$Bins", "copyFrom", "(LStockEvents$Bins;)V"⟩, prog_3_method_3_code, 2, none),
  (⟨"StockEvents$Batch", "commandOf", "(I)LStockEvents$Command;"⟩, prog_2_method_5_code, 2, (some (FieldType.object "StockEvents$Command"))),
  (⟨"StockEvents$Batch", "streamOf", "(I)I"⟩, prog_2_method_4_code, 2, (some FieldType.int)),
  (⟨"StockEvents$Batch", "carry", "(ILStockEvents$Command;)V"⟩, prog_2_method_7_code, 3, none),
  (⟨"StockEvents", "upcast", "()I"⟩, prog_1_method_5_code, 5, (some FieldType.int)),
  (⟨"StockEvents$Store", "addUpcaster", "(ILStockEvents$Formula;LStockEvents$Formula;)I"⟩, prog_11_method_8_code, 5, (some FieldType.int)),
  (⟨"StockEvents$Formats", "add", "(ILStockEvents$Formula;LStockEvents$Formula;)I"⟩, prog_5_method_4_code, 5, (some FieldType.int)),
  (⟨"StockEvents$Store", "foldPast", "(I)V"⟩, prog_11_method_9_code, 3, none),
  (⟨"StockEvents$Bins", "clear", "()V"⟩, prog_3_method_2_code, 1, none),
  (⟨"StockEvents$Store", "changePast", "(I)V"⟩, prog_11_method_10_code, 2, none),
  (⟨"StockEvents$Formats", "read", "(LStockEvents$Log;I)V"⟩, prog_5_method_6_code, 6, none)]
def mtd_2 : List (MethodName × ByteArray × Nat × Option FieldType) := [(⟨"StockEvents$Log", "get", "(II)I"⟩, prog_7_method_5_code, 4, (some FieldType.int)),
  (⟨"StockEvents$Log", "has", "(I)Z"⟩, prog_7_method_3_code, 2, (some FieldType.boolean)),
  (⟨"StockEvents$Formats", "change", "(LStockEvents$Formula;LStockEvents$Formula;)V"⟩, prog_5_method_7_code, 5, none),
  (⟨"StockEvents$Formula", "give", "([I)I"⟩, prog_6_method_2_code, 5, (some FieldType.int)),
  (⟨"StockEvents$Formula", "letterOf", "([II)I"⟩, prog_6_method_3_code, 2, (some FieldType.int)),
  (⟨"StockEvents$Formula", "join", "(III)I"⟩, prog_6_method_4_code, 3, (some FieldType.int)),
  (⟨"StockEvents$Formats", "letter", "(I)I"⟩, prog_5_method_5_code, 2, (some FieldType.int)),
  (⟨"StockEvents", "state", "(II)I"⟩, prog_1_method_6_code, 3, (some FieldType.int)),
  (⟨"StockEvents", "at", "(III)I"⟩, prog_1_method_7_code, 4, (some FieldType.int)),
  (⟨"StockEvents", "isVersion", "(II)Z"⟩, prog_1_method_36_code, 3, (some FieldType.boolean)),
  (⟨"StockEvents$Log", "positionOf", "(II)I"⟩, prog_7_method_9_code, 4, (some FieldType.int)),
  (⟨"StockEvents", "steps", "(II)I"⟩, prog_1_method_8_code, 3, (some FieldType.int)),
  (⟨"StockEvents$Snapshots", "latestGood", "(III)I"⟩, prog_10_method_8_code, 7, (some FieldType.int)),
  (⟨"StockEvents$Snapshots", "sizeOf", "(I)I"⟩, prog_10_method_5_code, 2, (some FieldType.int)),
  (⟨"StockEvents$Snapshots", "isGood", "(II)Z"⟩, prog_10_method_6_code, 3, (some FieldType.boolean)),
  (⟨"StockEvents", "snap", "(I)I"⟩, prog_1_method_9_code, 3, (some FieldType.int)),
  (⟨"StockEvents", "within", "(III)Z"⟩, prog_1_method_39_code, 3, (some FieldType.boolean)),
  (⟨"StockEvents", "within", "(III)Z"⟩, prog_1_method_39_code, 3, (some FieldType.boolean)),
  (⟨"StockEvents", "every", "(I)I"⟩, prog_1_method_11_code, 3, (some FieldType.int)),
  (⟨"StockEvents", "event", "(II)I"⟩, prog_1_method_12_code, 3, (some FieldType.int)),
  (⟨"StockEvents", "within", "(III)Z"⟩, prog_1_method_39_code, 3, (some FieldType.boolean)),
  (⟨"StockEvents", "within", "(III)Z"⟩, prog_1_method_39_code, 3, (some FieldType.boolean)),
  (⟨"StockEvents", "within", "(III)Z"⟩, prog_1_method_39_code, 3, (some FieldType.boolean)),
  (⟨"StockEvents", "within", "(III)Z"⟩, prog_1_method_39_code, 3, (some FieldType.boolean)),
  (⟨"StockEvents", "within", "(III)Z"⟩, prog_1_method_39_code, 3, (some FieldType.boolean)),
  (⟨"StockEvents", "within", "(III)Z"⟩, prog_1_method_39_code, 3, (some FieldType.boolean)),
  (⟨"StockEvents", "find", "(II)I"⟩, prog_1_method_14_code, 3, (some FieldType.int)),
  (⟨"StockEvents", "within", "(III)Z"⟩, prog_1_method_39_code, 3, (some FieldType.boolean)),
  (⟨"StockEvents", "within", "(III)Z"⟩, prog_1_method_39_code, 3, (some FieldType.boolean)),
  (⟨"StockEvents", "project", "(I)I"⟩, prog_1_method_16_code, 4, (some FieldType.int)),
  (⟨"StockEvents", "isSlot", "(I)Z"⟩, prog_1_method_38_code, 1, (some FieldType.boolean)),
  (⟨"StockEvents$Tape", "projection", "()LStockEvents$Projection;"⟩, prog_12_method_22_code, 5, (some (FieldType.object "StockEvents$Projection"))),
  (⟨"StockEvents$Tape", "kinds", "()I"⟩, prog_12_method_21_code, 4, (some FieldType.int)),
  (⟨"StockEvents$Tape", "always", "()LStockEvents$Formula;"⟩, prog_12_method_24_code, 1, (some (FieldType.object "StockEvents$Formula"))),
  (⟨"StockEvents$Projection", "<init>", "(IIILStockEvents$Formula;)V"⟩, prog_9_method_1_code, 5, none),
  (⟨"StockEvents", "rebuild", "(I)I"⟩, prog_1_method_17_code, 5, (some FieldType.int)),
  (⟨"StockEvents$Projection", "afresh", "()LStockEvents$Projection;"⟩, prog_9_method_2_code, 1, (some (FieldType.object "StockEvents$Projection"))),
  (⟨"StockEvents", "deliver", "(IIII)I"⟩, prog_1_method_18_code, 6, (some FieldType.int)),
  (⟨"StockEvents$Store", "projectionOf", "(II)LStockEvents$Projection;"⟩, prog_11_method_11_code, 3, (some (FieldType.object "StockEvents$Projection"))),
  (⟨"StockEvents$Store", "handOver", "(LStockEvents$Projection;II)I"⟩, prog_11_method_12_code, 7, (some FieldType.int))]
def mtd_3 : List (MethodName × ByteArray × Nat × Option FieldType) := [(⟨"StockEvents$Store", "handle", "(LStockEvents$Projection;I)V"⟩, prog_11_method_13_code, 3, none),
  (⟨"StockEvents$Projection", "handle", "(I[I)V"⟩, prog_9_method_5_code, 4, none),
  (⟨"StockEvents$Projection", "has", "(I)Z"⟩, prog_9_method_4_code, 2, (some FieldType.boolean)),
  (⟨"StockEvents$Projection", "folded", "(II)I"⟩, prog_9_method_6_code, 3, (some FieldType.int)),
  (⟨"StockEvents", "swap", "(I)I"⟩, prog_1_method_19_code, 4, (some FieldType.int)),
  (⟨"StockEvents", "look", "(III)I"⟩, prog_1_method_20_code, 5, (some FieldType.int)),
  (⟨"StockEvents$Projection", "size", "()I"⟩, prog_9_method_7_code, 1, (some FieldType.int)),
  (⟨"java/lang/Integer", "bitCount", "(I)I"⟩, prog_18_method_49_code, 1, (some FieldType.int)),
  (⟨"StockEvents$Store", "isTrue", "(LStockEvents$Projection;)Z"⟩, prog_11_method_14_code, 4, (some FieldType.boolean)),
  (⟨"StockEvents$Projection", "sameRows", "(LStockEvents$Projection;)Z"⟩, prog_9_method_9_code, 3, (some FieldType.boolean)),
  (⟨"StockEvents$Projection", "sum", "()I"⟩, prog_9_method_8_code, 3, (some FieldType.int)),
  (⟨"StockEvents", "row", "(III)I"⟩, prog_1_method_21_code, 5, (some FieldType.int)),
  (⟨"StockEvents", "policy", "(I)I"⟩, prog_1_method_22_code, 4, (some FieldType.int)),
  (⟨"StockEvents$Tape", "policyText", "()LStockEvents$Policy;"⟩, prog_12_method_23_code, 3, (some (FieldType.object "StockEvents$Policy"))),
  (⟨"StockEvents$Policy", "<init>", "(ILStockEvents$Formula;LStockEvents$Command;)V"⟩, prog_8_method_1_code, 4, none),
  (⟨"StockEvents", "run", "(II)I"⟩, prog_1_method_23_code, 4, (some FieldType.int)),
  (⟨"StockEvents$Store", "runPolicy", "(LStockEvents$Policy;I)I"⟩, prog_11_method_17_code, 4, (some FieldType.int)),
  (⟨"StockEvents$Store", "hasHandled", "(LStockEvents$Policy;I)Z"⟩, prog_11_method_18_code, 5, (some FieldType.boolean)),
  (⟨"StockEvents$Policy", "isFor", "(I[I)Z"⟩, prog_8_method_3_code, 3, (some FieldType.boolean)),
  (⟨"StockEvents$Command", "amountBy", "([I)I"⟩, prog_4_method_3_code, 2, (some FieldType.int)),
  (⟨"StockEvents", "within", "(III)Z"⟩, prog_1_method_39_code, 3, (some FieldType.boolean)),
  (⟨"StockEvents", "within", "(III)Z"⟩, prog_1_method_39_code, 3, (some FieldType.boolean)),
  (⟨"StockEvents", "within", "(III)Z"⟩, prog_1_method_39_code, 3, (some FieldType.boolean)),
  (⟨"StockEvents", "within", "(III)Z"⟩, prog_1_method_39_code, 3, (some FieldType.boolean)),
  (⟨"StockEvents", "within", "(III)Z"⟩, prog_1_method_39_code, 3, (some FieldType.boolean)),
  (⟨"StockEvents", "within", "(III)Z"⟩, prog_1_method_39_code, 3, (some FieldType.boolean)),
  (⟨"StockEvents", "within", "(III)Z"⟩, prog_1_method_39_code, 3, (some FieldType.boolean)),
  (⟨"StockEvents", "within", "(III)Z"⟩, prog_1_method_39_code, 3, (some FieldType.boolean)),
  (⟨"StockEvents", "within", "(III)Z"⟩, prog_1_method_39_code, 3, (some FieldType.boolean)),
  (⟨"StockEvents", "within", "(III)Z"⟩, prog_1_method_39_code, 3, (some FieldType.boolean)),
  (⟨"StockEvents", "within", "(III)Z"⟩, prog_1_method_39_code, 3, (some FieldType.boolean)),
  (⟨"StockEvents", "within", "(III)Z"⟩, prog_1_method_39_code, 3, (some FieldType.boolean)),
  (⟨"StockEvents", "within", "(III)Z"⟩, prog_1_method_39_code, 3, (some FieldType.boolean)),
  (⟨"StockEvents", "within", "(III)Z"⟩, prog_1_method_39_code, 3, (some FieldType.boolean)),
  (⟨"StockEvents", "within", "(III)Z"⟩, prog_1_method_39_code, 3, (some FieldType.boolean)),
  (⟨"StockEvents", "within", "(III)Z"⟩, prog_1_method_39_code, 3, (some FieldType.boolean)),
  (⟨"StockEvents", "within", "(III)Z"⟩, prog_1_method_39_code, 3, (some FieldType.boolean)),
  (⟨"StockEvents", "within", "(III)Z"⟩, prog_1_method_39_code, 3, (some FieldType.boolean)),
  (⟨"StockEvents", "within", "(III)Z"⟩, prog_1_method_39_code, 3, (some FieldType.boolean)),
  (⟨"StockEvents", "within", "(III)Z"⟩, prog_1_method_39_code, 3, (some FieldType.boolean))]
def mtd_4 : List (MethodName × ByteArray × Nat × Option FieldType) := [(⟨"StockEvents", "within", "(III)Z"⟩, prog_1_method_39_code, 3, (some FieldType.boolean)),
  (⟨"StockEvents", "led", "(I)I"⟩, prog_1_method_34_code, 2, (some FieldType.int)),
  (⟨"StockEvents", "count", "(I)I"⟩, prog_1_method_35_code, 2, (some FieldType.int)),
  (⟨"StockEvents$Log", "streamsUsed", "()I"⟩, prog_7_method_10_code, 3, (some FieldType.int)),
  (⟨"StockEvents$Store", "numbersUsed", "()I"⟩, prog_11_method_16_code, 3, (some FieldType.int)),
  (⟨"StockEvents$Snapshots", "total", "()I"⟩, prog_10_method_9_code, 3, (some FieldType.int)),
  (⟨"StockEvents$Store", "liveOnes", "()I"⟩, prog_11_method_15_code, 3, (some FieldType.int)),
  (⟨"java/lang/StringBuilder", "<init>", "()V"⟩, prog_22_method_1_code, 1, none),
  (⟨"java/lang/StringBuilder", "append", "(Ljava/lang/String;)Ljava/lang/StringBuilder;"⟩, prog_22_method_7_code, 2, (some (FieldType.object "java/lang/StringBuilder"))),
  (⟨"java/lang/StringBuilder", "append", "(I)Ljava/lang/StringBuilder;"⟩, prog_22_method_15_code, 2, (some (FieldType.object "java/lang/StringBuilder"))),
  (⟨"java/lang/StringBuilder", "toString", "()Ljava/lang/String;"⟩, prog_22_method_42_code, 1, (some (FieldType.object "java/lang/String"))),
  (⟨"java/lang/StringBuilder", "length", "()I"⟩, prog_22_method_93_code, 1, (some FieldType.int)),
  (⟨"java/lang/AbstractStringBuilder", "<init>", "(I)V"⟩, prog_15_method_2_code, 2, none),
  (⟨"java/lang/AbstractStringBuilder", "append", "(Ljava/lang/String;)Ljava/lang/AbstractStringBuilder;"⟩, prog_15_method_22_code, 3, (some (FieldType.object "java/lang/AbstractStringBuilder"))),
  (⟨"java/lang/AbstractStringBuilder", "append", "(I)Ljava/lang/AbstractStringBuilder;"⟩, prog_15_method_32_code, 4, (some (FieldType.object "java/lang/AbstractStringBuilder"))),
  (⟨"java/lang/AbstractStringBuilder", "ensureCapacityInternal", "(I)V"⟩, prog_15_method_9_code, 3, none),
  (⟨"java/lang/AbstractStringBuilder", "newCapacity", "(I)I"⟩, prog_15_method_10_code, 6, (some FieldType.int)),
  (⟨"java/lang/AbstractStringBuilder", "isLatin1", "()Z"⟩, prog_15_method_68_code, 1, (some FieldType.boolean)),
  (⟨"java/lang/AbstractStringBuilder", "putStringAt", "(ILjava/lang/String;)V"⟩, prog_15_method_73_code, 3, none),
  (⟨"java/lang/AbstractStringBuilder", "inflateIfNeededFor", "(Ljava/lang/String;)V"⟩, prog_15_method_71_code, 2, none),
  (⟨"java/lang/AbstractStringBuilder", "getValue", "()[B"⟩, prog_15_method_64_code, 1, (some (FieldType.array FieldType.byte))),
  (⟨"java/lang/AbstractStringBuilder", "length", "()I"⟩, prog_15_method_6_code, 1, (some FieldType.int)),
  (⟨"java/lang/String", "<init>", "(Ljava/lang/StringBuilder;)V"⟩, prog_21_method_53_code, 2, none),
  (⟨"java/lang/String", "<init>", "(Ljava/lang/AbstractStringBuilder;Ljava/lang/Void;)V"⟩, prog_21_method_150_code, 5, none),
  (⟨"java/lang/String", "getBytes", "([BIB)V"⟩, prog_21_method_147_code, 4, none),
  (⟨"java/lang/Integer", "stringSize", "(I)I"⟩, prog_18_method_13_code, 4, (some FieldType.int)),
  (⟨"java/lang/Integer", "getChars", "(II[B)I"⟩, prog_18_method_12_code, 7, (some FieldType.int)),
  (⟨"java/util/Arrays", "copyOf", "([BI)[B"⟩, prog_26_method_121_code, 3, (some (FieldType.array FieldType.byte))),
  (⟨"java/util/Arrays", "copyOfRange", "([BII)[B"⟩, prog_26_method_132_code, 3, (some (FieldType.array FieldType.byte))),
  (⟨"java/util/Arrays", "copyOfRangeByte", "([BII)[B"⟩, prog_26_method_133_code, 5, (some (FieldType.array FieldType.byte))),
  (⟨"java/util/Arrays", "checkLength", "(II)V"⟩, prog_26_method_131_code, 2, none),
  (⟨"jdk/internal/util/ArraysSupport", "newLength", "(III)I"⟩, prog_27_method_27_code, 4, (some FieldType.int)),
  (⟨"StockEventsLaw", "cell", "([II)I"⟩, method_2_code, 2, (some FieldType.int)),
  (⟨"StockEventsLaw", "tell", "(LStockEvents;Ljava/lang/String;)Z"⟩, method_3_code, 3, (some FieldType.boolean)),
  (⟨"StockEventsLaw", "asks", "(LStockEvents;Ljava/lang/String;IIII)Z"⟩, method_4_code, 6, (some FieldType.boolean)),
  (⟨"StockEventsLaw", "bins", "()[[I"⟩, method_5_code, 0, (some (FieldType.array (FieldType.array FieldType.int)))),
  (⟨"StockEventsLaw", "streamOf", "(I)I"⟩, method_6_code, 1, (some FieldType.int)),
  (⟨"StockEventsLaw", "kindOf", "(I)I"⟩, method_7_code, 1, (some FieldType.int)),
  (⟨"StockEventsLaw", "amountOf", "(I)I"⟩, method_8_code, 1, (some FieldType.int)),
  (⟨"StockEventsLaw", "targetOf", "(I)I"⟩, method_9_code, 1, (some FieldType.int))]
def mtd_5 : List (MethodName × ByteArray × Nat × Option FieldType) := [(⟨"StockEventsLaw", "text", "(I)Ljava/lang/String;"⟩, method_10_code, 3, (some (FieldType.object "java/lang/String"))),
  (⟨"StockEventsLaw", "isSo", "(LStockEvents;[[I)Z"⟩, method_13_code, 4, (some FieldType.boolean)),
  (⟨"StockEventsLaw", "opened", "(LStockEvents;[[I)Z"⟩, method_14_code, 2, (some FieldType.boolean)),
  (⟨"StockEventsLaw", "isFolded", "(LStockEvents;)Z"⟩, method_15_code, 7, (some FieldType.boolean)),
  (⟨"StockEvents", "within", "(III)Z"⟩, prog_1_method_39_code, 3, (some FieldType.boolean)),
  (⟨"StockEvents", "within", "(III)Z"⟩, prog_1_method_39_code, 3, (some FieldType.boolean)),
  (⟨"StockEvents", "within", "(III)Z"⟩, prog_1_method_39_code, 3, (some FieldType.boolean)),
  (⟨"StockEvents", "within", "(III)Z"⟩, prog_1_method_39_code, 3, (some FieldType.boolean)),
  (⟨"StockEvents", "within", "(III)Z"⟩, prog_1_method_39_code, 3, (some FieldType.boolean)),
  (⟨"StockEvents", "within", "(III)Z"⟩, prog_1_method_39_code, 3, (some FieldType.boolean)),
  (⟨"StockEvents", "within", "(III)Z"⟩, prog_1_method_39_code, 3, (some FieldType.boolean)),
  (⟨"StockEvents", "within", "(III)Z"⟩, prog_1_method_39_code, 3, (some FieldType.boolean)),
  (⟨"StockEvents", "within", "(III)Z"⟩, prog_1_method_39_code, 3, (some FieldType.boolean)),
  (⟨"StockEvents", "within", "(III)Z"⟩, prog_1_method_39_code, 3, (some FieldType.boolean)),
  (⟨"StockEvents", "within", "(III)Z"⟩, prog_1_method_39_code, 3, (some FieldType.boolean)),
  (⟨"StockEvents", "within", "(III)Z"⟩, prog_1_method_39_code, 3, (some FieldType.boolean)),
  (⟨"StockEvents", "within", "(III)Z"⟩, prog_1_method_39_code, 3, (some FieldType.boolean)),
  (⟨"StockEvents", "within", "(III)Z"⟩, prog_1_method_39_code, 3, (some FieldType.boolean)),
  (⟨"StockEvents", "within", "(III)Z"⟩, prog_1_method_39_code, 3, (some FieldType.boolean)),
  (⟨"StockEvents", "within", "(III)Z"⟩, prog_1_method_39_code, 3, (some FieldType.boolean)),
  (⟨"StockEvents", "within", "(III)Z"⟩, prog_1_method_39_code, 3, (some FieldType.boolean)),
  (⟨"StockEvents", "within", "(III)Z"⟩, prog_1_method_39_code, 3, (some FieldType.boolean)),
  (⟨"StockEvents", "within", "(III)Z"⟩, prog_1_method_39_code, 3, (some FieldType.boolean)),
  (⟨"StockEvents", "within", "(III)Z"⟩, prog_1_method_39_code, 3, (some FieldType.boolean)),
  (⟨"StockEvents", "within", "(III)Z"⟩, prog_1_method_39_code, 3, (some FieldType.boolean)),
  (⟨"StockEvents", "within", "(III)Z"⟩, prog_1_method_39_code, 3, (some FieldType.boolean)),
  (⟨"StockEvents", "within", "(III)Z"⟩, prog_1_method_39_code, 3, (some FieldType.boolean)),
  (⟨"StockEvents", "within", "(III)Z"⟩, prog_1_method_39_code, 3, (some FieldType.boolean)),
  (⟨"StockEvents", "within", "(III)Z"⟩, prog_1_method_39_code, 3, (some FieldType.boolean)),
  (⟨"StockEvents", "within", "(III)Z"⟩, prog_1_method_39_code, 3, (some FieldType.boolean)),
  (⟨"StockEvents", "within", "(III)Z"⟩, prog_1_method_39_code, 3, (some FieldType.boolean)),
  (⟨"StockEvents", "within", "(III)Z"⟩, prog_1_method_39_code, 3, (some FieldType.boolean)),
  (⟨"StockEvents", "within", "(III)Z"⟩, prog_1_method_39_code, 3, (some FieldType.boolean)),
  (⟨"StockEvents", "within", "(III)Z"⟩, prog_1_method_39_code, 3, (some FieldType.boolean)),
  (⟨"StockEvents", "within", "(III)Z"⟩, prog_1_method_39_code, 3, (some FieldType.boolean)),
  (⟨"StockEvents", "within", "(III)Z"⟩, prog_1_method_39_code, 3, (some FieldType.boolean)),
  (⟨"StockEvents", "within", "(III)Z"⟩, prog_1_method_39_code, 3, (some FieldType.boolean)),
  (⟨"StockEvents", "within", "(III)Z"⟩, prog_1_method_39_code, 3, (some FieldType.boolean)),
  (⟨"StockEvents", "within", "(III)Z"⟩, prog_1_method_39_code, 3, (some FieldType.boolean)),
  (⟨"StockEvents", "within", "(III)Z"⟩, prog_1_method_39_code, 3, (some FieldType.boolean))]
def mtd_6 : List (MethodName × ByteArray × Nat × Option FieldType) := [(⟨"StockEvents", "within", "(III)Z"⟩, prog_1_method_39_code, 3, (some FieldType.boolean)),
  (⟨"StockEvents", "within", "(III)Z"⟩, prog_1_method_39_code, 3, (some FieldType.boolean)),
  (⟨"StockEvents", "within", "(III)Z"⟩, prog_1_method_39_code, 3, (some FieldType.boolean)),
  (⟨"StockEvents", "within", "(III)Z"⟩, prog_1_method_39_code, 3, (some FieldType.boolean)),
  (⟨"StockEvents", "within", "(III)Z"⟩, prog_1_method_39_code, 3, (some FieldType.boolean)),
  (⟨"StockEvents", "within", "(III)Z"⟩, prog_1_method_39_code, 3, (some FieldType.boolean)),
  (⟨"StockEvents", "within", "(III)Z"⟩, prog_1_method_39_code, 3, (some FieldType.boolean)),
  (⟨"StockEvents", "within", "(III)Z"⟩, prog_1_method_39_code, 3, (some FieldType.boolean)),
  (⟨"StockEvents", "within", "(III)Z"⟩, prog_1_method_39_code, 3, (some FieldType.boolean)),
  (⟨"StockEvents", "within", "(III)Z"⟩, prog_1_method_39_code, 3, (some FieldType.boolean)),
  (⟨"StockEvents", "within", "(III)Z"⟩, prog_1_method_39_code, 3, (some FieldType.boolean)),
  (⟨"StockEvents", "within", "(III)Z"⟩, prog_1_method_39_code, 3, (some FieldType.boolean)),
  (⟨"StockEvents", "within", "(III)Z"⟩, prog_1_method_39_code, 3, (some FieldType.boolean)),
  (⟨"StockEvents", "within", "(III)Z"⟩, prog_1_method_39_code, 3, (some FieldType.boolean)),
  (⟨"StockEvents", "within", "(III)Z"⟩, prog_1_method_39_code, 3, (some FieldType.boolean)),
  (⟨"StockEvents", "within", "(III)Z"⟩, prog_1_method_39_code, 3, (some FieldType.boolean)),
  (⟨"StockEvents", "within", "(III)Z"⟩, prog_1_method_39_code, 3, (some FieldType.boolean)),
  (⟨"StockEvents", "within", "(III)Z"⟩, prog_1_method_39_code, 3, (some FieldType.boolean)),
  (⟨"StockEvents", "within", "(III)Z"⟩, prog_1_method_39_code, 3, (some FieldType.boolean)),
  (⟨"StockEvents", "within", "(III)Z"⟩, prog_1_method_39_code, 3, (some FieldType.boolean)),
  (⟨"StockEvents", "within", "(III)Z"⟩, prog_1_method_39_code, 3, (some FieldType.boolean)),
  (⟨"StockEvents", "within", "(III)Z"⟩, prog_1_method_39_code, 3, (some FieldType.boolean)),
  (⟨"StockEvents", "within", "(III)Z"⟩, prog_1_method_39_code, 3, (some FieldType.boolean)),
  (⟨"StockEvents", "within", "(III)Z"⟩, prog_1_method_39_code, 3, (some FieldType.boolean)),
  (⟨"StockEvents", "within", "(III)Z"⟩, prog_1_method_39_code, 3, (some FieldType.boolean)),
  (⟨"StockEvents", "within", "(III)Z"⟩, prog_1_method_39_code, 3, (some FieldType.boolean)),
  (⟨"StockEvents", "within", "(III)Z"⟩, prog_1_method_39_code, 3, (some FieldType.boolean)),
  (⟨"StockEvents", "within", "(III)Z"⟩, prog_1_method_39_code, 3, (some FieldType.boolean))]
def mtdL : List (MethodName × ByteArray × Nat × Option FieldType) := mtd_0 ++ (mtd_1 ++ (mtd_2 ++ (mtd_3 ++ (mtd_4 ++ (mtd_5 ++ (mtd_6))))))
def mxL : List Nat := [1, 1, 1, 1, 1, 1, 1, 1, 1, 1, 4, 2, 3, 2, 6, 1, 1, 6, 7, 2, 2, 1, 2, 7, 2, 5, 2, 1, 3, 6, 3, 1, 5, 2, 2, 2, 3, 4, 1, 2, 2, 6, 1, 3, 2, 1, 7, 2, 2, 5, 6, 4, 1, 1, 6, 2, 6, 4, 4, 5, 4, 6, 3, 2, 4, 1, 3, 4, 5, 2, 2, 2, 3, 5, 5, 5, 3, 1, 2, 6, 4, 2, 5, 5, 2, 3, 2, 3, 4, 3, 4, 3, 7, 2, 3, 3, 3, 3, 3, 3, 3, 3, 3, 3, 3, 3, 3, 3, 3, 4, 1, 5, 4, 1, 5, 5, 1, 6, 3, 7, 3, 4, 2, 3, 4, 5, 1, 1, 4, 3, 3, 5, 4, 3, 4, 4, 4, 5, 3, 2, 3, 3, 3, 3, 3, 3, 3, 3, 3, 3, 3, 3, 3, 3, 3, 3, 3, 3, 3, 3, 3, 2, 2, 3, 3, 3, 3, 1, 2, 2, 1, 1, 2, 3, 4, 3, 6, 1, 3, 2, 1, 1, 2, 5, 4, 4, 7, 3, 3, 5, 2, 4, 2, 3, 6, 0, 1, 1, 1, 1, 3, 4, 2, 7, 3, 3, 3, 3, 3, 3, 3, 3, 3, 3, 3, 3, 3, 3, 3, 3, 3, 3, 3, 3, 3, 3, 3, 3, 3, 3, 3, 3, 3, 3, 3, 3, 3, 3, 3, 3, 3, 3, 3, 3, 3, 3, 3, 3, 3, 3, 3, 3, 3, 3, 3, 3, 3, 3, 3, 3, 3, 3, 3, 3, 3, 3, 3, 3, 10]
def rkL : List Nat := [0, 0, 0, 0, 0, 0, 0, 1, 4, 0, 0, 1, 2, 1, 1, 2, 0, 6, 1, 1, 3, 2, 3, 2, 0, 0, 0, 1, 6, 0, 0, 2, 1, 0, 0, 1, 1, 1, 2, 1, 1, 1, 6, 6, 0, 1, 1, 0, 1, 1, 1, 1, 1, 1, 0, 1, 0, 0, 0, 0, 0, 0, 0, 1, 0, 0, 0, 1, 0, 0, 6, 1, 0, 1, 1, 1, 0, 0, 0, 0, 1, 2, 0, 1, 1, 1, 1, 1, 1, 2, 1, 1, 1, 1, 2, 1, 2, 2, 1, 1, 2, 2, 2, 2, 2, 2, 1, 2, 2, 1, 2, 6, 1, 6, 0, 1, 6, 1, 6, 1, 0, 0, 2, 1, 1, 1, 1, 1, 2, 2, 1, 1, 1, 6, 0, 1, 1, 2, 2, 1, 2, 2, 2, 2, 2, 2, 2, 2, 2, 2, 2, 2, 2, 2, 2, 2, 2, 2, 2, 2, 2, 1, 1, 1, 1, 1, 1, 0, 6, 6, 6, 1, 0, 6, 6, 0, 1, 2, 0, 0, 6, 1, 0, 0, 0, 1, 1, 6, 6, 6, 0, 1, 1, 2, 2, 6, 1, 1, 1, 1, 6, 2, 2, 2, 2, 2, 2, 2, 2, 2, 2, 2, 2, 2, 2, 2, 2, 2, 2, 2, 2, 2, 2, 2, 2, 2, 2, 2, 2, 2, 2, 2, 2, 2, 2, 2, 2, 2, 2, 2, 2, 2, 2, 2, 2, 2, 2, 2, 2, 2, 2, 2, 2, 2, 2, 2, 2, 2, 2, 2, 2, 2, 2, 2, 2, 2, 2, 2, 2]
def mcL : List Nat := [11, 10, 0, 1, 9, 5, 3, 13, 13, 8, 17, 11, 11, 10, 11, 11, 10, 10, 10, 10, 13, 13, 14, 10, 10, 2, 10, 10, 10, 10, 10, 10, 10, 10, 10, 13, 13, 14, 14, 16, 16, 14, 10, 17, 4, 10, 9, 9, 5, 9, 1, 1, 2, 5, 9, 3, 5, 5, 1, 1, 1, 8, 8, 11, 10, 0, 0, 9, 0, 1, 0, 0, 0, 11, 9, 3, 9, 1, 9, 3, 5, 5, 3, 4, 4, 4, 3, 11, 11, 11, 5, 11, 8, 8, 8, 11, 11, 11, 11, 11, 11, 11, 11, 11, 11, 11, 11, 11, 11, 11, 11, 10, 10, 10, 7, 11, 7, 11, 9, 9, 9, 7, 7, 7, 11, 11, 7, 15, 9, 7, 7, 11, 11, 10, 6, 11, 9, 9, 6, 2, 11, 11, 11, 11, 11, 11, 11, 11, 11, 11, 11, 11, 11, 11, 11, 11, 11, 11, 11, 11, 11, 11, 11, 5, 9, 8, 9, 12, 12, 12, 12, 12, 19, 19, 19, 19, 19, 19, 19, 19, 19, 19, 13, 13, 13, 15, 15, 17, 17, 17, 17, 20, 18, 18, 18, 18, 18, 18, 18, 18, 18, 18, 18, 18, 11, 11, 11, 11, 11, 11, 11, 11, 11, 11, 11, 11, 11, 11, 11, 11, 11, 11, 11, 11, 11, 11, 11, 11, 11, 11, 11, 11, 11, 11, 11, 11, 11, 11, 11, 11, 11, 11, 11, 11, 11, 11, 11, 11, 11, 11, 11, 11, 11, 11, 11, 11, 11, 11, 11, 11, 11, 11, 11, 11, 11, 11, 11, 11, 18]
/-- the kind of what a method is called on -/
def rcL : List Nat := [11, 10, 0, 1, 9, 5, 3, 13, 13, 8, 17, 11, 11, 10, 11, 11, 10, 10, 10, 10, 13, 13, 14, 10, 10, 2, 10, 10, 10, 10, 10, 10, 10, 10, 10, 13, 13, 14, 14, 16, 16, 14, 10, 17, 4, 10, 9, 9, 5, 9, 1, 1, 2, 5, 9, 3, 5, 5, 1, 1, 1, 8, 8, 11, 10, 0, 0, 9, 0, 1, 0, 0, 0, 11, 9, 3, 9, 1, 9, 3, 5, 5, 3, 4, 4, 4, 3, 11, 11, 11, 5, 11, 8, 8, 8, 11, 11, 11, 11, 11, 11, 11, 11, 11, 11, 11, 11, 11, 11, 11, 11, 10, 10, 10, 7, 11, 7, 11, 9, 9, 9, 7, 7, 7, 11, 11, 7, 15, 9, 7, 7, 11, 11, 10, 6, 11, 9, 9, 6, 2, 11, 11, 11, 11, 11, 11, 11, 11, 11, 11, 11, 11, 11, 11, 11, 11, 11, 11, 11, 11, 11, 11, 11, 5, 9, 8, 9, 12, 12, 12, 12, 12, 12, 12, 12, 12, 12, 12, 12, 12, 12, 12, 13, 13, 13, 15, 15, 17, 17, 17, 17, 20, 18, 18, 18, 18, 18, 18, 18, 18, 18, 18, 18, 18, 11, 11, 11, 11, 11, 11, 11, 11, 11, 11, 11, 11, 11, 11, 11, 11, 11, 11, 11, 11, 11, 11, 11, 11, 11, 11, 11, 11, 11, 11, 11, 11, 11, 11, 11, 11, 11, 11, 11, 11, 11, 11, 11, 11, 11, 11, 11, 11, 11, 11, 11, 11, 11, 11, 11, 11, 11, 11, 11, 11, 11, 11, 11, 11, 18]
def naL : List Nat := [1, 1, 1, 1, 1, 1, 1, 1, 1, 1, 2, 2, 3, 2, 4, 1, 1, 2, 2, 1, 2, 1, 2, 5, 2, 5, 2, 1, 3, 3, 2, 1, 2, 2, 1, 2, 3, 4, 1, 2, 2, 4, 1, 2, 2, 1, 5, 2, 2, 4, 4, 3, 1, 1, 5, 2, 6, 3, 4, 4, 4, 4, 2, 1, 2, 1, 3, 2, 3, 2, 2, 2, 3, 1, 4, 4, 2, 1, 2, 3, 3, 2, 3, 2, 2, 3, 2, 3, 4, 3, 3, 3, 4, 2, 3, 2, 3, 3, 2, 3, 3, 3, 3, 3, 3, 3, 3, 3, 3, 2, 1, 1, 1, 0, 5, 2, 1, 5, 3, 4, 3, 3, 2, 3, 2, 4, 1, 1, 2, 2, 1, 4, 2, 1, 4, 3, 3, 3, 3, 2, 3, 3, 3, 3, 3, 3, 3, 3, 3, 3, 3, 3, 3, 3, 3, 3, 3, 3, 3, 3, 3, 2, 2, 1, 1, 1, 1, 1, 2, 2, 1, 1, 2, 2, 2, 2, 2, 1, 3, 2, 1, 1, 2, 3, 4, 1, 3, 2, 3, 3, 2, 3, 2, 2, 6, 0, 1, 1, 1, 1, 1, 2, 2, 1, 3, 3, 3, 3, 3, 3, 3, 3, 3, 3, 3, 3, 3, 3, 3, 3, 3, 3, 3, 3, 3, 3, 3, 3, 3, 3, 3, 3, 3, 3, 3, 3, 3, 3, 3, 3, 3, 3, 3, 3, 3, 3, 3, 3, 3, 3, 3, 3, 3, 3, 3, 3, 3, 3, 3, 3, 3, 3, 3, 3, 3, 3, 3, 3, 1]
def stL : List Bool := [false, false, false, false, false, false, false, false, false, false, true, false, true, false, false, true, false, false, false, false, false, false, true, false, false, false, false, false, false, false, false, true, false, false, false, false, false, true, true, true, true, true, true, true, false, false, false, false, false, false, false, false, false, false, false, false, false, false, false, false, false, false, false, false, false, false, false, false, false, false, false, false, false, false, false, false, false, false, false, false, false, false, false, false, true, true, false, false, false, false, false, false, false, false, false, false, true, true, false, false, true, true, true, true, true, true, false, true, true, false, true, false, false, true, false, false, false, false, false, false, false, false, false, false, false, false, false, true, false, false, false, false, false, false, false, false, false, false, false, false, true, true, true, true, true, true, true, true, true, true, true, true, true, true, true, true, true, true, true, true, true, false, false, false, false, false, false, false, false, false, false, false, false, false, false, false, false, false, false, false, false, false, false, false, false, true, true, true, true, true, true, true, true, true, true, true, true, true, true, true, true, true, true, true, true, true, true, true, true, true, true, true, true, true, true, true, true, true, true, true, true, true, true, true, true, true, true, true, true, true, true, true, true, true, true, true, true, true, true, true, true, true, true, true, true, true, true, true, true, true, true, true, true, true, true, true, true, true, true, true, true, true, true, true, true, true, true, true, true]
abbrev m_S_init : Nat := 0
abbrev m_Tape_init : Nat := 1
abbrev m_Batch_init : Nat := 2
abbrev m_Bins_init : Nat := 3
abbrev m_Store_init : Nat := 4
abbrev m_Log_init : Nat := 5
abbrev m_Formats_init : Nat := 6
abbrev m_String_length : Nat := 7
abbrev m_String_coder : Nat := 8
abbrev m_Snapshots_init : Nat := 9
abbrev m_Arrays_fill : Nat := 10
abbrev m_S_feed : Nat := 11
abbrev m_S_within : Nat := 12
abbrev m_Tape_add : Nat := 13
abbrev m_S_ask : Nat := 14
abbrev m_S_isStream : Nat := 15
abbrev m_Tape_begin : Nat := 16
abbrev m_Tape_command : Nat := 17
abbrev m_Tape_word : Nat := 18
abbrev m_Tape_wordEnd : Nat := 19
abbrev m_String_charAt : Nat := 20
abbrev m_String_isLatin1 : Nat := 21
abbrev m_StringLatin1_charAt : Nat := 22
abbrev m_Tape_isSame : Nat := 23
abbrev m_Tape_fail : Nat := 24
abbrev m_Command_init : Nat := 25
abbrev m_Tape_take : Nat := 26
abbrev m_Tape_peek : Nat := 27
abbrev m_Tape_formula : Nat := 28
abbrev m_Tape_part : Nat := 29
abbrev m_Tape_operand : Nat := 30
abbrev m_Tape_isFigure : Nat := 31
abbrev m_Tape_number : Nat := 32
abbrev m_Tape_emit : Nat := 33
abbrev m_Tape_letter : Nat := 34
abbrev m_String_indexOf0 : Nat := 35
abbrev m_String_indexOf1 : Nat := 36
abbrev m_StringLatin1_indexOf : Nat := 37
abbrev m_StringLatin1_canEncode : Nat := 38
abbrev m_Math_max : Nat := 39
abbrev m_Math_min : Nat := 40
abbrev m_StringLatin1_indexOfChar : Nat := 41
abbrev m_Tape_signsOf : Nat := 42
abbrev m_Arrays_copyOf : Nat := 43
abbrev m_Formula_init : Nat := 44
abbrev m_Tape_end : Nat := 45
abbrev m_Store_asked : Nat := 46
abbrev m_Store_tell : Nat := 47
abbrev m_Log_versionOf : Nat := 48
abbrev m_Store_carry : Nat := 49
abbrev m_Bins_refusal : Nat := 50
abbrev m_Bins_get : Nat := 51
abbrev m_Command_events : Nat := 52
abbrev m_Log_room : Nat := 53
abbrev m_Store_come : Nat := 54
abbrev m_Formats_formatOf : Nat := 55
abbrev m_Log_add : Nat := 56
abbrev m_Log_put : Nat := 57
abbrev m_Bins_change : Nat := 58
abbrev m_Bins_put : Nat := 59
abbrev m_Bins_more : Nat := 60
abbrev m_Snapshots_add : Nat := 61
abbrev m_Snapshots_dropOldest : Nat := 62
abbrev m_S_batch : Nat := 63
abbrev m_Tape_readLines : Nat := 64
abbrev m_Batch_clear : Nat := 65
abbrev m_Batch_add : Nat := 66
abbrev m_Store_carryAll : Nat := 67
abbrev m_Batch_think : Nat := 68
abbrev m_Bins_copyFrom : Nat := 69
abbrev m_Batch_commandOf : Nat := 70
abbrev m_Batch_streamOf : Nat := 71
abbrev m_Batch_carry : Nat := 72
abbrev m_S_upcast : Nat := 73
abbrev m_Store_addUpcaster : Nat := 74
abbrev m_Formats_add : Nat := 75
abbrev m_Store_foldPast : Nat := 76
abbrev m_Bins_clear : Nat := 77
abbrev m_Store_changePast : Nat := 78
abbrev m_Formats_read : Nat := 79
abbrev m_Log_get : Nat := 80
abbrev m_Log_has : Nat := 81
abbrev m_Formats_change : Nat := 82
abbrev m_Formula_give : Nat := 83
abbrev m_Formula_letterOf : Nat := 84
abbrev m_Formula_join : Nat := 85
abbrev m_Formats_letter : Nat := 86
abbrev m_S_state : Nat := 87
abbrev m_S_at : Nat := 88
abbrev m_S_isVersion : Nat := 89
abbrev m_Log_positionOf : Nat := 90
abbrev m_S_steps : Nat := 91
abbrev m_Snapshots_latestGood : Nat := 92
abbrev m_Snapshots_sizeOf : Nat := 93
abbrev m_Snapshots_isGood : Nat := 94
abbrev m_S_snap : Nat := 95
abbrev m_dup96 : Nat := 96
abbrev m_dup97 : Nat := 97
abbrev m_S_every : Nat := 98
abbrev m_S_event : Nat := 99
abbrev m_dup100 : Nat := 100
abbrev m_dup101 : Nat := 101
abbrev m_dup102 : Nat := 102
abbrev m_dup103 : Nat := 103
abbrev m_dup104 : Nat := 104
abbrev m_dup105 : Nat := 105
abbrev m_S_find : Nat := 106
abbrev m_dup107 : Nat := 107
abbrev m_dup108 : Nat := 108
abbrev m_S_project : Nat := 109
abbrev m_S_isSlot : Nat := 110
abbrev m_Tape_projection : Nat := 111
abbrev m_Tape_kinds : Nat := 112
abbrev m_Tape_always : Nat := 113
abbrev m_Projection_init : Nat := 114
abbrev m_S_rebuild : Nat := 115
abbrev m_Projection_afresh : Nat := 116
abbrev m_S_deliver : Nat := 117
abbrev m_Store_projectionOf : Nat := 118
abbrev m_Store_handOver : Nat := 119
abbrev m_Store_handle : Nat := 120
abbrev m_Projection_handle : Nat := 121
abbrev m_Projection_has : Nat := 122
abbrev m_Projection_folded : Nat := 123
abbrev m_S_swap : Nat := 124
abbrev m_S_look : Nat := 125
abbrev m_Projection_size : Nat := 126
abbrev m_Integer_bitCount : Nat := 127
abbrev m_Store_isTrue : Nat := 128
abbrev m_Projection_sameRows : Nat := 129
abbrev m_Projection_sum : Nat := 130
abbrev m_S_row : Nat := 131
abbrev m_S_policy : Nat := 132
abbrev m_Tape_policyText : Nat := 133
abbrev m_Policy_init : Nat := 134
abbrev m_S_run : Nat := 135
abbrev m_Store_runPolicy : Nat := 136
abbrev m_Store_hasHandled : Nat := 137
abbrev m_Policy_isFor : Nat := 138
abbrev m_Command_amountBy : Nat := 139
abbrev m_dup140 : Nat := 140
abbrev m_dup141 : Nat := 141
abbrev m_dup142 : Nat := 142
abbrev m_dup143 : Nat := 143
abbrev m_dup144 : Nat := 144
abbrev m_dup145 : Nat := 145
abbrev m_dup146 : Nat := 146
abbrev m_dup147 : Nat := 147
abbrev m_dup148 : Nat := 148
abbrev m_dup149 : Nat := 149
abbrev m_dup150 : Nat := 150
abbrev m_dup151 : Nat := 151
abbrev m_dup152 : Nat := 152
abbrev m_dup153 : Nat := 153
abbrev m_dup154 : Nat := 154
abbrev m_dup155 : Nat := 155
abbrev m_dup156 : Nat := 156
abbrev m_dup157 : Nat := 157
abbrev m_dup158 : Nat := 158
abbrev m_dup159 : Nat := 159
abbrev m_dup160 : Nat := 160
abbrev m_S_led : Nat := 161
abbrev m_S_count : Nat := 162
abbrev m_Log_streamsUsed : Nat := 163
abbrev m_Store_numbersUsed : Nat := 164
abbrev m_Snapshots_total : Nat := 165
abbrev m_Store_liveOnes : Nat := 166
abbrev m_SB_init : Nat := 167
abbrev m_SB_appS : Nat := 168
abbrev m_SB_appI : Nat := 169
abbrev m_SB_toString : Nat := 170
abbrev m_SB_length : Nat := 171
abbrev m_AB_init : Nat := 172
abbrev m_AB_appS : Nat := 173
abbrev m_AB_appI : Nat := 174
abbrev m_AB_ensure : Nat := 175
abbrev m_AB_newCap : Nat := 176
abbrev m_AB_isLatin1 : Nat := 177
abbrev m_AB_putStr : Nat := 178
abbrev m_AB_inflIf : Nat := 179
abbrev m_AB_getValue : Nat := 180
abbrev m_AB_length : Nat := 181
abbrev m_String_initB : Nat := 182
abbrev m_String_initA : Nat := 183
abbrev m_String_getBytes : Nat := 184
abbrev m_Integer_size : Nat := 185
abbrev m_Integer_getChars : Nat := 186
abbrev m_Arrays_copyOfB : Nat := 187
abbrev m_Arrays_range : Nat := 188
abbrev m_Arrays_rangeB : Nat := 189
abbrev m_Arrays_chkLen : Nat := 190
abbrev m_AS_newLength : Nat := 191
abbrev m_L_cell : Nat := 192
abbrev m_L_tell : Nat := 193
abbrev m_L_asks : Nat := 194
abbrev m_L_bins : Nat := 195
abbrev m_L_streamOf : Nat := 196
abbrev m_L_kindOf : Nat := 197
abbrev m_L_amountOf : Nat := 198
abbrev m_L_targetOf : Nat := 199
abbrev m_L_text : Nat := 200
abbrev m_L_isSo : Nat := 201
abbrev m_L_opened : Nat := 202
abbrev m_L_isFolded : Nat := 203
abbrev m_dup204 : Nat := 204
abbrev m_dup205 : Nat := 205
abbrev m_dup206 : Nat := 206
abbrev m_dup207 : Nat := 207
abbrev m_dup208 : Nat := 208
abbrev m_dup209 : Nat := 209
abbrev m_dup210 : Nat := 210
abbrev m_dup211 : Nat := 211
abbrev m_dup212 : Nat := 212
abbrev m_dup213 : Nat := 213
abbrev m_dup214 : Nat := 214
abbrev m_dup215 : Nat := 215
abbrev m_dup216 : Nat := 216
abbrev m_dup217 : Nat := 217
abbrev m_dup218 : Nat := 218
abbrev m_dup219 : Nat := 219
abbrev m_dup220 : Nat := 220
abbrev m_dup221 : Nat := 221
abbrev m_dup222 : Nat := 222
abbrev m_dup223 : Nat := 223
abbrev m_dup224 : Nat := 224
abbrev m_dup225 : Nat := 225
abbrev m_dup226 : Nat := 226
abbrev m_dup227 : Nat := 227
abbrev m_dup228 : Nat := 228
abbrev m_dup229 : Nat := 229
abbrev m_dup230 : Nat := 230
abbrev m_dup231 : Nat := 231
abbrev m_dup232 : Nat := 232
abbrev m_dup233 : Nat := 233
abbrev m_dup234 : Nat := 234
abbrev m_dup235 : Nat := 235
abbrev m_dup236 : Nat := 236
abbrev m_dup237 : Nat := 237
abbrev m_dup238 : Nat := 238
abbrev m_dup239 : Nat := 239
abbrev m_dup240 : Nat := 240
abbrev m_dup241 : Nat := 241
abbrev m_dup242 : Nat := 242
abbrev m_dup243 : Nat := 243
abbrev m_dup244 : Nat := 244
abbrev m_dup245 : Nat := 245
abbrev m_dup246 : Nat := 246
abbrev m_dup247 : Nat := 247
abbrev m_dup248 : Nat := 248
abbrev m_dup249 : Nat := 249
abbrev m_dup250 : Nat := 250
abbrev m_dup251 : Nat := 251
abbrev m_dup252 : Nat := 252
abbrev m_dup253 : Nat := 253
abbrev m_dup254 : Nat := 254
abbrev m_dup255 : Nat := 255
abbrev m_dup256 : Nat := 256
abbrev m_dup257 : Nat := 257
abbrev m_dup258 : Nat := 258
abbrev m_dup259 : Nat := 259
abbrev m_dup260 : Nat := 260
abbrev m_dup261 : Nat := 261
abbrev m_dup262 : Nat := 262
abbrev m_dup263 : Nat := 263
abbrev m_dup264 : Nat := 264
abbrev m_dup265 : Nat := 265
abbrev m_dup266 : Nat := 266
abbrev m_dup267 : Nat := 267
abbrev m_law : Nat := 268
def fTab : List (Nat × Nat × Nat × Nat) := [(10, 9, 10, 0), (10, 15, 10, 1), (10, 20, 10, 2), (10, 61, 10, 3), (10, 28, 10, 4), (11, 199, 10, 4), (10, 31, 10, 5), (10, 24, 10, 6), (1, 9, 1, 0), (0, 9, 0, 0), (0, 17, 0, 1), (0, 24, 0, 2), (0, 28, 0, 3), (9, 181, 0, 3), (0, 36, 0, 4), (9, 178, 0, 4), (0, 39, 0, 5), (9, 195, 0, 5), (0, 42, 0, 6), (9, 184, 0, 6), (5, 9, 5, 0), (5, 15, 5, 1), (5, 18, 5, 2), (5, 27, 5, 4), (9, 200, 5, 4), (11, 176, 5, 4), (3, 9, 3, 0), (3, 17, 3, 1), (3, 21, 3, 2), (3, 32, 3, 3), (9, 229, 3, 3), (3, 41, 3, 4), (9, 167, 3, 4), (11, 135, 3, 4), (8, 9, 8, 0), (8, 15, 8, 1), (8, 18, 8, 2), (9, 12, 9, 0), (11, 95, 9, 0), (9, 21, 9, 1), (11, 104, 9, 1), (9, 25, 9, 2), (11, 124, 9, 2), (9, 31, 9, 3), (11, 131, 9, 3), (9, 38, 9, 4), (11, 127, 9, 4), (9, 42, 9, 5), (9, 48, 9, 6), (11, 192, 9, 6), (9, 52, 9, 7), (11, 196, 9, 7), (9, 57, 9, 8), (11, 238, 9, 8), (9, 61, 9, 9), (9, 70, 9, 10), (9, 73, 9, 11), (11, 307, 9, 11), (9, 84, 9, 12), (9, 113, 9, 13), (11, 156, 9, 13), (11, 14, 11, 0), (11, 21, 11, 1), (11, 28, 11, 2), (11, 32, 11, 3), (11, 35, 11, 4), (2, 9, 2, 0), (9, 146, 2, 0), (0, 68, 2, 0), (1, 38, 2, 0), (2, 15, 2, 1), (9, 128, 2, 1), (0, 54, 2, 1), (2, 18, 2, 2), (9, 149, 2, 2), (0, 75, 2, 2), (1, 44, 2, 2), (2, 21, 2, 3), (4, 7, 4, 0), (4, 13, 4, 1), (7, 9, 7, 0), (7, 15, 7, 1), (7, 18, 7, 2), (7, 21, 7, 3), (7, 25, 7, 4), (11, 227, 7, 4), (7, 42, 7, 5), (9, 222, 7, 6), (11, 213, 7, 6), (6, 7, 6, 0), (6, 13, 6, 1), (6, 17, 6, 2), (9, 251, 6, 2), (9, 242, 6, 3), (11, 235, 6, 3), (9, 259, 6, 4), (9, 262, 6, 5), (19, 15, 12, 0), (19, 22, 12, 1), (13, 1048, 12, 2), (19, 79, 12, 3), (13, 9, 13, 0), (13, 15, 13, 1)]
def mTab : List (Nat × Nat × Nat) := [(18, 117, 0), (11, 13, 1), (11, 20, 2), (0, 23, 3), (11, 27, 4), (9, 11, 5), (9, 20, 3), (9, 30, 6), (3, 26, 7), (13, 335, 8), (9, 37, 9), (9, 64, 10), (9, 78, 7), (18, 33, 14), (11, 47, 15), (11, 39, 12), (11, 51, 16), (11, 54, 17), (10, 110, 18), (10, 42, 19), (10, 45, 7), (10, 49, 20), (13, 492, 21), (13, 495, 22), (10, 53, 23), (10, 34, 24), (10, 116, 25), (10, 105, 26), (10, 38, 27), (10, 119, 28), (10, 64, 29), (10, 79, 30), (10, 57, 31), (10, 99, 32), (10, 90, 33), (10, 102, 34), (10, 86, 35), (13, 633, 36), (13, 505, 7), (13, 637, 37), (14, 88, 38), (14, 92, 39), (14, 38, 40), (14, 95, 41), (10, 82, 42), (10, 70, 43), (17, 304, 40), (10, 76, 44), (11, 58, 45), (11, 62, 46), (9, 120, 47), (9, 124, 48), (9, 133, 49), (9, 137, 50), (1, 27, 51), (9, 140, 52), (9, 143, 53), (9, 152, 54), (9, 156, 55), (9, 159, 56), (5, 39, 53), (5, 43, 57), (9, 163, 58), (1, 31, 59), (1, 35, 60), (9, 170, 61), (8, 27, 62), (18, 167, 63), (11, 66, 64), (10, 125, 65), (10, 130, 17), (10, 134, 66), (11, 70, 67), (9, 172, 68), (0, 32, 69), (0, 46, 70), (0, 50, 71), (0, 57, 50), (0, 61, 52), (0, 64, 72), (0, 71, 58), (9, 188, 70), (9, 192, 71), (18, 158, 73), (11, 76, 18), (11, 80, 26), (11, 86, 28), (11, 90, 74), (9, 197, 75), (3, 45, 55), (9, 202, 76), (9, 205, 77), (1, 15, 10), (9, 208, 78), (9, 211, 79), (3, 49, 80), (5, 35, 81), (5, 31, 12), (3, 55, 82), (3, 59, 83), (4, 16, 84), (4, 20, 85), (9, 215, 80), (9, 219, 86), (9, 91, 69), (18, 141, 95), (11, 99, 48), (11, 147, 61), (18, 144, 98), (18, 105, 99), (11, 159, 81), (11, 162, 80), (11, 163, 79), (11, 167, 86), (18, 123, 109), (11, 185, 110), (11, 188, 111), (10, 146, 112), (10, 153, 113), (10, 161, 114), (18, 184, 115), (11, 200, 116), (7, 29, 114), (18, 147, 117), (11, 205, 118), (11, 209, 119), (9, 225, 120), (9, 232, 121), (7, 48, 83), (7, 54, 122), (7, 58, 123), (7, 62, 39), (7, 67, 40), (18, 187, 124), (18, 177, 125), (11, 216, 126), (7, 70, 127), (11, 219, 128), (9, 235, 116), (9, 238, 129), (11, 223, 130), (18, 180, 131), (11, 226, 122), (18, 130, 132), (11, 231, 133), (10, 170, 134), (18, 151, 135), (11, 242, 136), (9, 243, 137), (9, 247, 138), (6, 33, 83), (9, 255, 139), (2, 25, 83), (2, 31, 40), (2, 37, 39), (18, 174, 161), (18, 24, 162), (11, 310, 163), (11, 313, 164), (11, 316, 165), (11, 319, 166), (18, 133, 192), (18, 27, 193), (18, 8, 7), (18, 14, 20), (18, 18, 11), (11, 43, 13), (18, 101, 195), (18, 82, 196), (18, 137, 200), (18, 39, 197), (18, 60, 167), (12, 1, 172), (18, 61, 168), (12, 29, 173), (19, 100, 175), (19, 104, 176), (19, 114, 191), (20, 194, 39), (19, 108, 187), (19, 83, 177), (19, 32, 7), (19, 208, 178), (19, 397, 179), (19, 40, 8), (19, 399, 184), (18, 67, 198), (18, 70, 169), (12, 53, 174), (19, 245, 185), (19, 248, 186), (18, 73, 170), (12, 137, 182), (13, 489, 183), (13, 552, 180), (12, 343, 181), (13, 1047, 177), (13, 54, 188), (17, 339, 189), (17, 343, 190), (18, 79, 199), (18, 118, 202), (18, 91, 194), (18, 97, 201), (18, 85, 87), (11, 108, 51), (18, 170, 203), (18, 108, 106), (11, 114, 89), (11, 118, 90), (5, 47, 80), (18, 111, 91), (11, 141, 92), (8, 31, 93), (8, 35, 94), (8, 39, 39), (18, 114, 88), (11, 121, 76)]
/-- calls that name another method than the one that runs -/
def uTab : List (Nat × Nat × Nat) := [(13, 549, 171)]
def nTab : List (Nat × Nat × Nat) := [(18, 19, 11), (11, 11, 10), (11, 18, 0), (0, 15, 2), (0, 21, 1), (11, 25, 9), (9, 9, 5), (9, 18, 1), (9, 28, 3), (3, 15, 4), (9, 35, 8), (9, 46, 7), (9, 55, 6), (10, 114, 2), (10, 68, 4), (10, 159, 7), (7, 10, 7), (10, 168, 6), (18, 9, 13), (18, 58, 12), (12, 18, 13)]
def kTab : List (Nat × Nat × Int32) := [(11, 94, -2000000000), (15, 265, 1431655765), (15, 266, 858993459), (15, 267, 252645135), (18, 7, 16777215), (20, 200, 2147483639), (19, 39, 2147483647), (18, 183, -2000000000)]
def klTab : List (Nat × Nat × Nat) := []
def sTab : List (Nat × Nat × Nat) := [(10, 18, 1), (3, 24, 3), (9, 76, 5), (10, 108, 7), (10, 93, 9), (10, 95, 11), (10, 97, 13), (10, 123, 15), (11, 74, 17), (11, 84, 19), (18, 42, 21), (10, 142, 23), (10, 144, 25), (10, 138, 27), (10, 140, 29), (10, 149, 31), (10, 151, 33), (10, 157, 35), (10, 162, 37), (10, 164, 39), (10, 166, 41), (18, 44, 43), (18, 46, 106), (18, 48, 108), (18, 50, 110), (18, 52, 112), (18, 54, 114), (18, 56, 116), (18, 65, 118), (18, 77, 120), (18, 89, 122), (18, 95, 124), (18, 121, 126), (18, 126, 128), (18, 128, 130), (18, 154, 132), (18, 156, 134), (18, 161, 136), (18, 163, 138), (18, 165, 140)]
def oiTab : List (Nat × Nat) := [(11, 5), (10, 3), (0, 3), (1, 3), (9, 3), (5, 3), (3, 3), (8, 3), (2, 3), (4, 1), (7, 3), (6, 1), (19, 3), (13, 1)]
def acTab : List (Nat × Nat) := [(17, 150), (1, 21), (13, 212)]
def ciTab : List (Nat × Nat) := [(14, 9)]
/-- statics: 0 COMPACT_STRINGS, 1 DigitOnes, 2 DigitTens -/
def gsTab : List (Nat × Nat × Nat) := [(13, 38, 0), (19, 18, 0), (15, 83, 1), (15, 87, 2)]
def cnTab : List (Nat × Nat) := [(17, 316), (17, 310)]
def nfL : List Nat := [7, 1, 4, 5, 2, 5, 6, 7, 3, 15, 7, 5, 4, 4]
def ftL : List (List Nat) := [[1, 1, 1, 0, 0, 0, 2], [1], [0, 0, 0, 1], [1, 1, 1, 1, 0], [1, 1], [1, 1, 1, 0, 0], [0, 1, 1, 0, 0, 0], [0, 0, 0, 1, 1, 0, 0], [1, 1, 1], [1, 1, 1, 1, 1, 1, 1, 1, 1, 1, 1, 1, 1, 0, 0], [1, 1, 1, 0, 0, 0, 0], [1, 1, 1, 1, 2], [1, 3, 2, 0], [1, 3, 0, 2]]
def fnL : List (List Bool) := [[true, true, true, false, false, false, false], [true], [true, true, true, true], [true, true, true, true, false], [true, true], [true, true, true, false, false], [true, true, true, false, false, false], [true, true, true, true, true, false, false], [true, true, true], [true, true, true, true, true, true, true, true, true, true, true, true, true, false, false], [true, true, false, false, false, false, false], [true, true, true, true, false], [false, false, false, false], [true, true, false, false]]
abbrev k_Batch : Nat := 0
abbrev f_Batch_streams : Nat := 0
abbrev f_Batch_commands : Nat := 1
abbrev f_Batch_bins : Nat := 2
abbrev f_Batch_size : Nat := 3
abbrev f_Batch_through : Nat := 4
abbrev f_Batch_events : Nat := 5
abbrev f_Batch_refused : Nat := 6
abbrev k_Bins : Nat := 1
abbrev f_Bins_cells : Nat := 0
abbrev k_Command : Nat := 2
abbrev f_Command_kind : Nat := 0
abbrev f_Command_amount : Nat := 1
abbrev f_Command_target : Nat := 2
abbrev f_Command_formula : Nat := 3
abbrev k_Formats : Nat := 3
abbrev f_Formats_sizes : Nat := 0
abbrev f_Formats_toA : Nat := 1
abbrev f_Formats_toB : Nat := 2
abbrev f_Formats_letters : Nat := 3
abbrev f_Formats_era : Nat := 4
abbrev k_Formula : Nat := 4
abbrev f_Formula_code : Nat := 0
abbrev f_Formula_stack : Nat := 1
abbrev k_Log : Nat := 5
abbrev f_Log_cells : Nat := 0
abbrev f_Log_versions : Nat := 1
abbrev f_Log_line : Nat := 2
abbrev f_Log_lineLength : Nat := 3
abbrev f_Log_length : Nat := 4
abbrev k_Policy : Nat := 6
abbrev f_Policy_kinds : Nat := 0
abbrev f_Policy_condition : Nat := 1
abbrev f_Policy_command : Nat := 2
abbrev f_Policy_checkpoint : Nat := 3
abbrev f_Policy_done : Nat := 4
abbrev f_Policy_refused : Nat := 5
abbrev k_Projection : Nat := 7
abbrev f_Projection_fold : Nat := 0
abbrev f_Projection_kinds : Nat := 1
abbrev f_Projection_key : Nat := 2
abbrev f_Projection_condition : Nat := 3
abbrev f_Projection_rows : Nat := 4
abbrev f_Projection_present : Nat := 5
abbrev f_Projection_checkpoint : Nat := 6
abbrev k_Snapshots : Nat := 8
abbrev f_Snapshots_versions : Nat := 0
abbrev f_Snapshots_eras : Nat := 1
abbrev f_Snapshots_sizes : Nat := 2
abbrev k_Store : Nat := 9
abbrev f_Store_log : Nat := 0
abbrev f_Store_bins : Nat := 1
abbrev f_Store_past : Nat := 2
abbrev f_Store_formats : Nat := 3
abbrev f_Store_snapshots : Nat := 4
abbrev f_Store_answers : Nat := 5
abbrev f_Store_live : Nat := 6
abbrev f_Store_beside : Nat := 7
abbrev f_Store_policies : Nat := 8
abbrev f_Store_seenStream : Nat := 9
abbrev f_Store_seenVersion : Nat := 10
abbrev f_Store_led : Nat := 11
abbrev f_Store_stateLetters : Nat := 12
abbrev f_Store_every : Nat := 13
abbrev f_Store_harmless : Nat := 14
abbrev k_Tape : Nat := 10
abbrev f_Tape_bytes : Nat := 0
abbrev f_Tape_code : Nat := 1
abbrev f_Tape_letters : Nat := 2
abbrev f_Tape_codeLength : Nat := 3
abbrev f_Tape_length : Nat := 4
abbrev f_Tape_place : Nat := 5
abbrev f_Tape_fault : Nat := 6
abbrev k_S : Nat := 11
abbrev f_S_tape : Nat := 0
abbrev f_S_lines : Nat := 1
abbrev f_S_store : Nat := 2
abbrev f_S_kept : Nat := 3
abbrev f_S_imaged : Nat := 4
abbrev k_SB : Nat := 12
abbrev f_SB_value : Nat := 0
abbrev f_SB_coder : Nat := 1
abbrev f_SB_maybeLatin1 : Nat := 2
abbrev f_SB_count : Nat := 3
abbrev k_String : Nat := 13
abbrev f_String_value : Nat := 0
abbrev f_String_coder : Nat := 1
abbrev f_String_hash : Nat := 2
abbrev f_String_hashIsZero : Nat := 3
/-- which local variables are written as long ones -/
def lngT : List (Nat × Nat) := []
end
section
def p0 (pc : Nat) : Option PE := bif Nat.ble pc 26 then (bif Nat.ble pc 9 then (bif Nat.ble pc 4 then (bif Nat.beq pc 0 then some (.aload_n 0, 0, 0, 0, []) else bif Nat.beq pc 1 then some (.invokespecial 5, 0, 0, 0, []) else bif Nat.beq pc 4 then some (.aload_n 0, 0, 0, 0, []) else none) else (bif Nat.beq pc 5 then some (.new 11, 10, 0, 0, []) else bif Nat.beq pc 8 then some (.dup, 0, 0, 0, []) else bif Nat.beq pc 9 then some (.invokespecial 13, 1, 1, 0, []) else none)) else (bif Nat.ble pc 16 then (bif Nat.beq pc 12 then some (.putfield 14, 11, 0, 0, []) else bif Nat.beq pc 15 then some (.aload_n 0, 0, 0, 0, []) else bif Nat.beq pc 16 then some (.new 18, 0, 0, 0, []) else none) else (bif Nat.ble pc 20 then (bif Nat.beq pc 19 then some (.dup, 0, 0, 0, []) else bif Nat.beq pc 20 then some (.invokespecial 20, 2, 1, 0, []) else none) else (bif Nat.beq pc 23 then some (.putfield 21, 11, 1, 0, []) else bif Nat.beq pc 26 then some (.aload_n 0, 0, 0, 0, []) else none)))) else (bif Nat.ble pc 38 then (bif Nat.ble pc 31 then (bif Nat.beq pc 27 then some (.new 25, 9, 0, 0, []) else bif Nat.beq pc 30 then some (.dup, 0, 0, 0, []) else bif Nat.beq pc 31 then some (.invokespecial 27, 4, 1, 0, []) else none) else (bif Nat.beq pc 34 then some (.putfield 28, 11, 2, 0, []) else bif Nat.beq pc 37 then some (.aload_n 0, 0, 0, 0, []) else bif Nat.beq pc 38 then some (.new 25, 9, 0, 0, []) else none)) else (bif Nat.ble pc 45 then (bif Nat.beq pc 41 then some (.dup, 0, 0, 0, []) else bif Nat.beq pc 42 then some (.invokespecial 27, 4, 1, 0, []) else bif Nat.beq pc 45 then some (.putfield 32, 11, 3, 0, []) else none) else (bif Nat.ble pc 49 then (bif Nat.beq pc 48 then some (.aload_n 0, 0, 0, 0, []) else bif Nat.beq pc 49 then some (.iconst 0, 0, 0, 0, []) else none) else (bif Nat.beq pc 50 then some (.putfield 35, 11, 4, 0, []) else bif Nat.beq pc 53 then some (.return_, 0, 0, 0, []) else none))))
def p1 (pc : Nat) : Option PE := bif Nat.ble pc 14 then (bif Nat.ble pc 5 then (bif Nat.ble pc 1 then (bif Nat.beq pc 0 then some (.aload_n 0, 0, 0, 0, []) else bif Nat.beq pc 1 then some (.invokespecial 3, 0, 0, 0, []) else none) else (bif Nat.beq pc 4 then some (.aload_n 0, 0, 0, 0, []) else bif Nat.beq pc 5 then some (.sipush 160, 0, 0, 160, []) else none)) else (bif Nat.ble pc 10 then (bif Nat.beq pc 8 then some (.newarray .int, 0, 0, 0, []) else bif Nat.beq pc 10 then some (.putfield 9, 10, 0, 0, []) else none) else (bif Nat.beq pc 13 then some (.aload_n 0, 0, 0, 0, []) else bif Nat.beq pc 14 then some (.sipush 160, 0, 0, 160, []) else none))) else (bif Nat.ble pc 23 then (bif Nat.ble pc 19 then (bif Nat.beq pc 17 then some (.newarray .int, 0, 0, 0, []) else bif Nat.beq pc 19 then some (.putfield 15, 10, 1, 0, []) else none) else (bif Nat.beq pc 22 then some (.aload_n 0, 0, 0, 0, []) else bif Nat.beq pc 23 then some (.ldc 18, 1, 1, 0, []) else none)) else (bif Nat.ble pc 28 then (bif Nat.beq pc 25 then some (.putfield 20, 10, 2, 0, []) else bif Nat.beq pc 28 then some (.aload_n 0, 0, 0, 0, []) else none) else (bif Nat.beq pc 29 then some (.iconst (-1), 0, 0, -1, []) else bif Nat.beq pc 30 then some (.putfield 24, 10, 6, 0, []) else bif Nat.beq pc 33 then some (.return_, 0, 0, 0, []) else none)))
def p2 (pc : Nat) : Option PE := bif Nat.ble pc 13 then (bif Nat.ble pc 5 then (bif Nat.ble pc 1 then (bif Nat.beq pc 0 then some (.aload_n 0, 0, 0, 0, []) else bif Nat.beq pc 1 then some (.invokespecial 3, 0, 0, 0, []) else none) else (bif Nat.beq pc 4 then some (.aload_n 0, 0, 0, 0, []) else bif Nat.beq pc 5 then some (.bipush 40, 0, 0, 40, []) else none)) else (bif Nat.ble pc 9 then (bif Nat.beq pc 7 then some (.newarray .int, 0, 0, 0, []) else bif Nat.beq pc 9 then some (.putfield 9, 0, 0, 0, []) else none) else (bif Nat.beq pc 12 then some (.aload_n 0, 0, 0, 0, []) else bif Nat.beq pc 13 then some (.bipush 40, 0, 0, 40, []) else none))) else (bif Nat.ble pc 22 then (bif Nat.ble pc 18 then (bif Nat.beq pc 15 then some (.anewarray 15, 23, 0, 0, []) else bif Nat.beq pc 18 then some (.putfield 17, 0, 1, 0, []) else none) else (bif Nat.beq pc 21 then some (.aload_n 0, 0, 0, 0, []) else bif Nat.beq pc 22 then some (.new 21, 1, 0, 0, []) else none)) else (bif Nat.ble pc 26 then (bif Nat.beq pc 25 then some (.dup, 0, 0, 0, []) else bif Nat.beq pc 26 then some (.invokespecial 23, 3, 1, 0, []) else none) else (bif Nat.beq pc 29 then some (.putfield 24, 0, 2, 0, []) else bif Nat.beq pc 32 then some (.return_, 0, 0, 0, []) else none)))
def p3 (pc : Nat) : Option PE := bif Nat.ble pc 4 then (bif Nat.beq pc 0 then some (.aload_n 0, 0, 0, 0, []) else bif Nat.beq pc 1 then some (.invokespecial 3, 0, 0, 0, []) else bif Nat.beq pc 4 then some (.aload_n 0, 0, 0, 0, []) else none) else (bif Nat.ble pc 7 then (bif Nat.beq pc 5 then some (.bipush 32, 0, 0, 32, []) else bif Nat.beq pc 7 then some (.newarray .int, 0, 0, 0, []) else none) else (bif Nat.beq pc 9 then some (.putfield 9, 1, 0, 0, []) else bif Nat.beq pc 12 then some (.return_, 0, 0, 0, []) else none))
def p4 (pc : Nat) : Option PE := bif Nat.ble pc 68 then (bif Nat.ble pc 31 then (bif Nat.ble pc 15 then (bif Nat.ble pc 5 then (bif Nat.ble pc 1 then (bif Nat.beq pc 0 then some (.aload_n 0, 0, 0, 0, []) else bif Nat.beq pc 1 then some (.invokespecial 3, 0, 0, 0, []) else none) else (bif Nat.beq pc 4 then some (.aload_n 0, 0, 0, 0, []) else bif Nat.beq pc 5 then some (.new 9, 5, 0, 0, []) else none)) else (bif Nat.ble pc 9 then (bif Nat.beq pc 8 then some (.dup, 0, 0, 0, []) else bif Nat.beq pc 9 then some (.invokespecial 11, 5, 1, 0, []) else none) else (bif Nat.beq pc 12 then some (.putfield 12, 9, 0, 0, []) else bif Nat.beq pc 15 then some (.aload_n 0, 0, 0, 0, []) else none))) else (bif Nat.ble pc 23 then (bif Nat.ble pc 19 then (bif Nat.beq pc 16 then some (.new 18, 1, 0, 0, []) else bif Nat.beq pc 19 then some (.dup, 0, 0, 0, []) else none) else (bif Nat.beq pc 20 then some (.invokespecial 20, 3, 1, 0, []) else bif Nat.beq pc 23 then some (.putfield 21, 9, 1, 0, []) else none)) else (bif Nat.ble pc 27 then (bif Nat.beq pc 26 then some (.aload_n 0, 0, 0, 0, []) else bif Nat.beq pc 27 then some (.new 18, 1, 0, 0, []) else none) else (bif Nat.beq pc 30 then some (.dup, 0, 0, 0, []) else bif Nat.beq pc 31 then some (.invokespecial 20, 3, 1, 0, []) else none)))) else (bif Nat.ble pc 49 then (bif Nat.ble pc 41 then (bif Nat.ble pc 37 then (bif Nat.beq pc 34 then some (.putfield 25, 9, 2, 0, []) else bif Nat.beq pc 37 then some (.aload_n 0, 0, 0, 0, []) else none) else (bif Nat.beq pc 38 then some (.new 28, 3, 0, 0, []) else bif Nat.beq pc 41 then some (.dup, 0, 0, 0, []) else none)) else (bif Nat.ble pc 45 then (bif Nat.beq pc 42 then some (.invokespecial 30, 6, 1, 0, []) else bif Nat.beq pc 45 then some (.putfield 31, 9, 3, 0, []) else none) else (bif Nat.beq pc 48 then some (.aload_n 0, 0, 0, 0, []) else bif Nat.beq pc 49 then some (.new 35, 8, 0, 0, []) else none))) else (bif Nat.ble pc 59 then (bif Nat.ble pc 53 then (bif Nat.beq pc 52 then some (.dup, 0, 0, 0, []) else bif Nat.beq pc 53 then some (.invokespecial 37, 9, 1, 0, []) else none) else (bif Nat.beq pc 56 then some (.putfield 38, 9, 4, 0, []) else bif Nat.beq pc 59 then some (.aload_n 0, 0, 0, 0, []) else none)) else (bif Nat.ble pc 63 then (bif Nat.beq pc 60 then some (.sipush 1000, 0, 0, 1000, []) else bif Nat.beq pc 63 then some (.newarray .int, 0, 0, 0, []) else none) else (bif Nat.beq pc 65 then some (.putfield 42, 9, 5, 0, []) else bif Nat.beq pc 68 then some (.aload_n 0, 0, 0, 0, []) else none))))) else (bif Nat.ble pc 99 then (bif Nat.ble pc 84 then (bif Nat.ble pc 76 then (bif Nat.ble pc 70 then (bif Nat.beq pc 69 then some (.iconst 4, 0, 0, 4, []) else bif Nat.beq pc 70 then some (.anewarray 46, 24, 0, 0, []) else none) else (bif Nat.beq pc 73 then some (.putfield 48, 9, 6, 0, []) else bif Nat.beq pc 76 then some (.aload_n 0, 0, 0, 0, []) else none)) else (bif Nat.ble pc 78 then (bif Nat.beq pc 77 then some (.iconst 4, 0, 0, 4, []) else bif Nat.beq pc 78 then some (.anewarray 46, 24, 0, 0, []) else none) else (bif Nat.beq pc 81 then some (.putfield 52, 9, 7, 0, []) else bif Nat.beq pc 84 then some (.aload_n 0, 0, 0, 0, []) else none))) else (bif Nat.ble pc 92 then (bif Nat.ble pc 86 then (bif Nat.beq pc 85 then some (.iconst 4, 0, 0, 4, []) else bif Nat.beq pc 86 then some (.anewarray 55, 25, 0, 0, []) else none) else (bif Nat.beq pc 89 then some (.putfield 57, 9, 8, 0, []) else bif Nat.beq pc 92 then some (.aload_n 0, 0, 0, 0, []) else none)) else (bif Nat.ble pc 94 then (bif Nat.beq pc 93 then some (.iconst 4, 0, 0, 4, []) else bif Nat.beq pc 94 then some (.newarray .int, 0, 0, 0, []) else none) else (bif Nat.beq pc 96 then some (.putfield 61, 9, 9, 0, []) else bif Nat.beq pc 99 then some (.aload_n 0, 0, 0, 0, []) else none)))) else (bif Nat.ble pc 114 then (bif Nat.ble pc 107 then (bif Nat.ble pc 103 then (bif Nat.beq pc 100 then some (.getfield 61, 9, 9, 0, []) else bif Nat.beq pc 103 then some (.iconst (-1), 0, 0, -1, []) else none) else (bif Nat.beq pc 104 then some (.invokestatic 64, 10, 2, 0, []) else bif Nat.beq pc 107 then some (.aload_n 0, 0, 0, 0, []) else none)) else (bif Nat.ble pc 109 then (bif Nat.beq pc 108 then some (.iconst 4, 0, 0, 4, []) else bif Nat.beq pc 109 then some (.newarray .int, 0, 0, 0, []) else none) else (bif Nat.beq pc 111 then some (.putfield 70, 9, 10, 0, []) else bif Nat.beq pc 114 then some (.aload_n 0, 0, 0, 0, []) else none))) else (bif Nat.ble pc 122 then (bif Nat.ble pc 117 then (bif Nat.beq pc 115 then some (.bipush 7, 0, 0, 7, []) else bif Nat.beq pc 117 then some (.newarray .int, 0, 0, 0, []) else none) else (bif Nat.beq pc 119 then some (.putfield 73, 9, 11, 0, []) else bif Nat.beq pc 122 then some (.aload_n 0, 0, 0, 0, []) else none)) else (bif Nat.ble pc 125 then (bif Nat.beq pc 123 then some (.ldc 76, 1, 5, 0, []) else bif Nat.beq pc 125 then some (.invokevirtual 78, 7, 0, 0, []) else none) else (bif Nat.beq pc 128 then some (.newarray .int, 0, 0, 0, []) else bif Nat.beq pc 130 then some (.putfield 84, 9, 12, 0, []) else bif Nat.beq pc 133 then some (.return_, 0, 0, 0, []) else none)))))
def p5 (pc : Nat) : Option PE := bif Nat.ble pc 13 then (bif Nat.ble pc 4 then (bif Nat.beq pc 0 then some (.aload_n 0, 0, 0, 0, []) else bif Nat.beq pc 1 then some (.invokespecial 3, 0, 0, 0, []) else bif Nat.beq pc 4 then some (.aload_n 0, 0, 0, 0, []) else none) else (bif Nat.ble pc 8 then (bif Nat.beq pc 5 then some (.sipush 1446, 0, 0, 1446, []) else bif Nat.beq pc 8 then some (.newarray .int, 0, 0, 0, []) else none) else (bif Nat.beq pc 10 then some (.putfield 9, 5, 0, 0, []) else bif Nat.beq pc 13 then some (.aload_n 0, 0, 0, 0, []) else none))) else (bif Nat.ble pc 21 then (bif Nat.ble pc 16 then (bif Nat.beq pc 14 then some (.bipush 8, 0, 0, 8, []) else bif Nat.beq pc 16 then some (.newarray .int, 0, 0, 0, []) else none) else (bif Nat.beq pc 18 then some (.putfield 15, 5, 1, 0, []) else bif Nat.beq pc 21 then some (.aload_n 0, 0, 0, 0, []) else none)) else (bif Nat.ble pc 24 then (bif Nat.beq pc 22 then some (.bipush 80, 0, 0, 80, []) else bif Nat.beq pc 24 then some (.newarray .int, 0, 0, 0, []) else none) else (bif Nat.beq pc 26 then some (.putfield 18, 5, 2, 0, []) else bif Nat.beq pc 29 then some (.return_, 0, 0, 0, []) else none)))
def p6 (pc : Nat) : Option PE := bif Nat.ble pc 18 then (bif Nat.ble pc 7 then (bif Nat.ble pc 1 then (bif Nat.beq pc 0 then some (.aload_n 0, 0, 0, 0, []) else bif Nat.beq pc 1 then some (.invokespecial 3, 0, 0, 0, []) else none) else (bif Nat.beq pc 4 then some (.aload_n 0, 0, 0, 0, []) else bif Nat.beq pc 5 then some (.bipush 9, 0, 0, 9, []) else bif Nat.beq pc 7 then some (.newarray .int, 0, 0, 0, []) else none)) else (bif Nat.ble pc 12 then (bif Nat.beq pc 9 then some (.putfield 9, 3, 0, 0, []) else bif Nat.beq pc 12 then some (.aload_n 0, 0, 0, 0, []) else none) else (bif Nat.beq pc 13 then some (.bipush 27, 0, 0, 27, []) else bif Nat.beq pc 15 then some (.anewarray 15, 22, 0, 0, []) else bif Nat.beq pc 18 then some (.putfield 17, 3, 1, 0, []) else none))) else (bif Nat.ble pc 30 then (bif Nat.ble pc 22 then (bif Nat.beq pc 21 then some (.aload_n 0, 0, 0, 0, []) else bif Nat.beq pc 22 then some (.bipush 27, 0, 0, 27, []) else none) else (bif Nat.beq pc 24 then some (.anewarray 15, 22, 0, 0, []) else bif Nat.beq pc 27 then some (.putfield 21, 3, 2, 0, []) else bif Nat.beq pc 30 then some (.aload_n 0, 0, 0, 0, []) else none)) else (bif Nat.ble pc 33 then (bif Nat.beq pc 31 then some (.ldc 24, 1, 3, 0, []) else bif Nat.beq pc 33 then some (.invokevirtual 26, 7, 0, 0, []) else none) else (bif Nat.beq pc 36 then some (.newarray .int, 0, 0, 0, []) else bif Nat.beq pc 38 then some (.putfield 32, 3, 3, 0, []) else bif Nat.beq pc 41 then some (.return_, 0, 0, 0, []) else none)))
def p7 (pc : Nat) : Option PE := bif Nat.ble pc 4 then (bif Nat.beq pc 0 then some (.aload_n 0, 0, 0, 0, []) else bif Nat.beq pc 1 then some (.getfield 9, 13, 0, 0, []) else bif Nat.beq pc 4 then some (.arraylength, 0, 0, 0, []) else none) else (bif Nat.ble pc 6 then (bif Nat.beq pc 5 then some (.aload_n 0, 0, 0, 0, []) else bif Nat.beq pc 6 then some (.invokevirtual 335, 8, 0, 0, []) else none) else (bif Nat.beq pc 9 then some (.ishr, 0, 0, 0, []) else bif Nat.beq pc 10 then some (.ireturn, 0, 0, 0, []) else none))
def p8 (pc : Nat) : Option PE := bif Nat.ble pc 6 then (bif Nat.beq pc 0 then some (.getstatic 38, 0, 0, 1, []) else bif Nat.beq pc 3 then some (.ifCond .eq 10, 13, 0, 0, []) else bif Nat.beq pc 6 then some (.aload_n 0, 0, 0, 0, []) else none) else (bif Nat.ble pc 10 then (bif Nat.beq pc 7 then some (.getfield 15, 13, 1, 0, []) else bif Nat.beq pc 10 then some (.goto 4, 14, 0, 0, []) else none) else (bif Nat.beq pc 13 then some (.iconst 1, 0, 0, 1, []) else bif Nat.beq pc 14 then some (.ireturn, 0, 0, 0, []) else none))
def p9 (pc : Nat) : Option PE := bif Nat.ble pc 12 then (bif Nat.ble pc 4 then (bif Nat.beq pc 0 then some (.aload_n 0, 0, 0, 0, []) else bif Nat.beq pc 1 then some (.invokespecial 3, 0, 0, 0, []) else bif Nat.beq pc 4 then some (.aload_n 0, 0, 0, 0, []) else none) else (bif Nat.ble pc 7 then (bif Nat.beq pc 5 then some (.bipush 32, 0, 0, 32, []) else bif Nat.beq pc 7 then some (.newarray .int, 0, 0, 0, []) else none) else (bif Nat.beq pc 9 then some (.putfield 9, 8, 0, 0, []) else bif Nat.beq pc 12 then some (.aload_n 0, 0, 0, 0, []) else none))) else (bif Nat.ble pc 20 then (bif Nat.ble pc 15 then (bif Nat.beq pc 13 then some (.bipush 32, 0, 0, 32, []) else bif Nat.beq pc 15 then some (.newarray .int, 0, 0, 0, []) else none) else (bif Nat.beq pc 17 then some (.putfield 15, 8, 1, 0, []) else bif Nat.beq pc 20 then some (.aload_n 0, 0, 0, 0, []) else none)) else (bif Nat.ble pc 23 then (bif Nat.beq pc 21 then some (.bipush 8, 0, 0, 8, []) else bif Nat.beq pc 23 then some (.newarray .int, 0, 0, 0, []) else none) else (bif Nat.beq pc 25 then some (.putfield 18, 8, 2, 0, []) else bif Nat.beq pc 28 then some (.return_, 0, 0, 0, []) else none)))
def p10 (pc : Nat) : Option PE := bif Nat.ble pc 6 then (bif Nat.ble pc 2 then (bif Nat.beq pc 0 then some (.iconst 0, 0, 0, 0, []) else bif Nat.beq pc 1 then some (.istore_n 2, 2, 0, 0, []) else bif Nat.beq pc 2 then some (.aload_n 0, 0, 0, 0, []) else none) else (bif Nat.ble pc 4 then (bif Nat.beq pc 3 then some (.arraylength, 0, 0, 0, []) else bif Nat.beq pc 4 then some (.istore_n 3, 3, 0, 0, []) else none) else (bif Nat.beq pc 5 then some (.iload_n 2, 2, 0, 0, []) else bif Nat.beq pc 6 then some (.iload_n 3, 3, 0, 0, []) else none))) else (bif Nat.ble pc 12 then (bif Nat.ble pc 10 then (bif Nat.beq pc 7 then some (.if_icmp .ge 13, 20, 0, 0, []) else bif Nat.beq pc 10 then some (.aload_n 0, 0, 0, 0, []) else none) else (bif Nat.beq pc 11 then some (.iload_n 2, 2, 0, 0, []) else bif Nat.beq pc 12 then some (.iload_n 1, 1, 0, 0, []) else none)) else (bif Nat.ble pc 14 then (bif Nat.beq pc 13 then some (.iastore, 0, 0, 0, []) else bif Nat.beq pc 14 then some (.iinc 2 1, 2, 0, 1, []) else none) else (bif Nat.beq pc 17 then some (.goto (-12), 5, 0, 0, []) else bif Nat.beq pc 20 then some (.return_, 0, 0, 0, []) else none)))
def p11 (pc : Nat) : Option PE := bif Nat.ble pc 11 then (bif Nat.ble pc 2 then (bif Nat.beq pc 0 then some (.iload_n 1, 1, 0, 0, []) else bif Nat.beq pc 1 then some (.iconst 1, 0, 0, 1, []) else bif Nat.beq pc 2 then some (.sipush 255, 0, 0, 255, []) else none) else (bif Nat.beq pc 5 then some (.invokestatic 39, 12, 3, 0, []) else bif Nat.beq pc 8 then some (.ifCond .eq 14, 22, 0, 0, []) else bif Nat.beq pc 11 then some (.aload_n 0, 0, 0, 0, []) else none)) else (bif Nat.ble pc 16 then (bif Nat.beq pc 12 then some (.getfield 14, 11, 0, 0, []) else bif Nat.beq pc 15 then some (.iload_n 1, 1, 0, 0, []) else bif Nat.beq pc 16 then some (.invokevirtual 43, 13, 1, 0, []) else none) else (bif Nat.beq pc 19 then some (.goto 4, 23, 0, 0, []) else bif Nat.beq pc 22 then some (.iconst (-1), 0, 0, -1, []) else bif Nat.beq pc 23 then some (.ireturn, 0, 0, 0, []) else none))
def p12 (pc : Nat) : Option PE := bif Nat.ble pc 6 then (bif Nat.ble pc 1 then (bif Nat.beq pc 0 then some (.iload_n 0, 0, 0, 0, []) else bif Nat.beq pc 1 then some (.iload_n 1, 1, 0, 0, []) else none) else (bif Nat.beq pc 2 then some (.if_icmp .lt 12, 14, 0, 0, []) else bif Nat.beq pc 5 then some (.iload_n 0, 0, 0, 0, []) else bif Nat.beq pc 6 then some (.iload_n 2, 2, 0, 0, []) else none)) else (bif Nat.ble pc 10 then (bif Nat.beq pc 7 then some (.if_icmp .gt 7, 14, 0, 0, []) else bif Nat.beq pc 10 then some (.iconst 1, 0, 0, 1, []) else none) else (bif Nat.beq pc 11 then some (.goto 4, 15, 0, 0, []) else bif Nat.beq pc 14 then some (.iconst 0, 0, 0, 0, []) else bif Nat.beq pc 15 then some (.ireturn, 0, 0, 0, []) else none))
def p13 (pc : Nat) : Option PE := bif Nat.ble pc 19 then (bif Nat.ble pc 8 then (bif Nat.ble pc 1 then (bif Nat.beq pc 0 then some (.aload_n 0, 0, 0, 0, []) else bif Nat.beq pc 1 then some (.getfield 28, 10, 4, 0, []) else none) else (bif Nat.beq pc 4 then some (.aload_n 0, 0, 0, 0, []) else bif Nat.beq pc 5 then some (.getfield 9, 10, 0, 0, []) else bif Nat.beq pc 8 then some (.arraylength, 0, 0, 0, []) else none)) else (bif Nat.ble pc 14 then (bif Nat.beq pc 9 then some (.if_icmp .lt 6, 15, 0, 0, []) else bif Nat.beq pc 12 then some (.bipush (-3), 0, 0, -3, []) else bif Nat.beq pc 14 then some (.ireturn, 0, 0, 0, []) else none) else (bif Nat.beq pc 15 then some (.aload_n 0, 0, 0, 0, []) else bif Nat.beq pc 16 then some (.getfield 9, 10, 0, 0, []) else bif Nat.beq pc 19 then some (.aload_n 0, 0, 0, 0, []) else none))) else (bif Nat.ble pc 27 then (bif Nat.ble pc 24 then (bif Nat.beq pc 20 then some (.getfield 28, 10, 4, 0, []) else bif Nat.beq pc 23 then some (.iload_n 1, 1, 0, 0, []) else bif Nat.beq pc 24 then some (.iastore, 0, 0, 0, []) else none) else (bif Nat.beq pc 25 then some (.aload_n 0, 0, 0, 0, []) else bif Nat.beq pc 26 then some (.dup, 0, 0, 0, []) else bif Nat.beq pc 27 then some (.getfield 28, 10, 4, 0, []) else none)) else (bif Nat.ble pc 32 then (bif Nat.beq pc 30 then some (.iconst 1, 0, 0, 1, []) else bif Nat.beq pc 31 then some (.iadd, 0, 0, 0, []) else bif Nat.beq pc 32 then some (.putfield 28, 10, 4, 0, []) else none) else (bif Nat.beq pc 35 then some (.aload_n 0, 0, 0, 0, []) else bif Nat.beq pc 36 then some (.getfield 28, 10, 4, 0, []) else bif Nat.beq pc 39 then some (.ireturn, 0, 0, 0, []) else none)))
def p14 (pc : Nat) : Option PE := bif Nat.ble pc 36 then (bif Nat.ble pc 14 then (bif Nat.ble pc 7 then (bif Nat.ble pc 1 then (bif Nat.beq pc 0 then some (.iload_n 1, 1, 0, 0, []) else bif Nat.beq pc 1 then some (.invokestatic 47, 15, 1, 0, []) else none) else (bif Nat.beq pc 4 then some (.ifCond .eq 19, 23, 0, 0, []) else bif Nat.beq pc 7 then some (.iload_n 2, 2, 0, 0, []) else none)) else (bif Nat.ble pc 9 then (bif Nat.beq pc 8 then some (.iconst (-1), 0, 0, -1, []) else bif Nat.beq pc 9 then some (.if_icmp .lt 14, 23, 0, 0, []) else none) else (bif Nat.beq pc 12 then some (.iload_n 3, 3, 0, 0, []) else bif Nat.beq pc 13 then some (.iconst 0, 0, 0, 0, []) else bif Nat.beq pc 14 then some (.sipush 999, 0, 0, 999, []) else none))) else (bif Nat.ble pc 25 then (bif Nat.ble pc 20 then (bif Nat.beq pc 17 then some (.invokestatic 39, 12, 3, 0, []) else bif Nat.beq pc 20 then some (.ifCond .ne 5, 25, 0, 0, []) else none) else (bif Nat.beq pc 23 then some (.iconst (-1), 0, 0, -1, []) else bif Nat.beq pc 24 then some (.ireturn, 0, 0, 0, []) else bif Nat.beq pc 25 then some (.aload_n 0, 0, 0, 0, []) else none)) else (bif Nat.ble pc 29 then (bif Nat.beq pc 26 then some (.getfield 14, 11, 0, 0, []) else bif Nat.beq pc 29 then some (.invokevirtual 51, 16, 0, 0, []) else none) else (bif Nat.beq pc 32 then some (.aload_n 0, 0, 0, 0, []) else bif Nat.beq pc 33 then some (.getfield 14, 11, 0, 0, []) else bif Nat.beq pc 36 then some (.iconst 0, 0, 0, 0, []) else none)))) else (bif Nat.ble pc 58 then (bif Nat.ble pc 46 then (bif Nat.ble pc 40 then (bif Nat.beq pc 37 then some (.invokevirtual 54, 17, 1, 0, []) else bif Nat.beq pc 40 then some (.astore 4, 4, 0, 0, []) else none) else (bif Nat.beq pc 42 then some (.aload_n 0, 0, 0, 0, []) else bif Nat.beq pc 43 then some (.getfield 14, 11, 0, 0, []) else bif Nat.beq pc 46 then some (.invokevirtual 58, 45, 0, 0, []) else none)) else (bif Nat.ble pc 51 then (bif Nat.beq pc 49 then some (.istore 5, 5, 0, 0, []) else bif Nat.beq pc 51 then some (.iload 5, 5, 0, 0, []) else none) else (bif Nat.beq pc 53 then some (.ifCond .lt 11, 64, 0, 0, []) else bif Nat.beq pc 56 then some (.bipush (-100), 0, 0, -100, []) else bif Nat.beq pc 58 then some (.iload 5, 5, 0, 0, []) else none))) else (bif Nat.ble pc 68 then (bif Nat.ble pc 61 then (bif Nat.beq pc 60 then some (.isub, 0, 0, 0, []) else bif Nat.beq pc 61 then some (.goto 15, 76, 0, 0, []) else none) else (bif Nat.beq pc 64 then some (.aload_n 0, 0, 0, 0, []) else bif Nat.beq pc 65 then some (.getfield 28, 11, 2, 0, []) else bif Nat.beq pc 68 then some (.iload_n 1, 1, 0, 0, []) else none)) else (bif Nat.ble pc 70 then (bif Nat.beq pc 69 then some (.iload_n 2, 2, 0, 0, []) else bif Nat.beq pc 70 then some (.iload_n 3, 3, 0, 0, []) else none) else (bif Nat.beq pc 71 then some (.aload 4, 4, 0, 0, []) else bif Nat.beq pc 73 then some (.invokevirtual 62, 46, 4, 0, []) else bif Nat.beq pc 76 then some (.ireturn, 0, 0, 0, []) else none))))
def p15 (pc : Nat) : Option PE := bif Nat.ble pc 1 then (bif Nat.beq pc 0 then some (.iload_n 0, 0, 0, 0, []) else bif Nat.beq pc 1 then some (.iconst 0, 0, 0, 0, []) else none) else (bif Nat.beq pc 2 then some (.bipush 7, 0, 0, 7, []) else bif Nat.beq pc 4 then some (.invokestatic 39, 12, 3, 0, []) else bif Nat.beq pc 7 then some (.ireturn, 0, 0, 0, []) else none)
def p16 (pc : Nat) : Option PE := bif Nat.ble pc 2 then (bif Nat.beq pc 0 then some (.aload_n 0, 0, 0, 0, []) else bif Nat.beq pc 1 then some (.iconst 0, 0, 0, 0, []) else bif Nat.beq pc 2 then some (.putfield 31, 10, 5, 0, []) else none) else (bif Nat.ble pc 6 then (bif Nat.beq pc 5 then some (.aload_n 0, 0, 0, 0, []) else bif Nat.beq pc 6 then some (.iconst (-1), 0, 0, -1, []) else none) else (bif Nat.beq pc 7 then some (.putfield 24, 10, 6, 0, []) else bif Nat.beq pc 10 then some (.return_, 0, 0, 0, []) else none))
def p17 (pc : Nat) : Option PE := bif Nat.ble pc 65 then (bif Nat.ble pc 31 then (bif Nat.ble pc 13 then (bif Nat.ble pc 6 then (bif Nat.ble pc 1 then (bif Nat.beq pc 0 then some (.aload_n 0, 0, 0, 0, []) else bif Nat.beq pc 1 then some (.ldc 108, 1, 7, 0, []) else none) else (bif Nat.beq pc 3 then some (.invokevirtual 110, 18, 1, 0, []) else bif Nat.beq pc 6 then some (.istore_n 2, 2, 0, 0, []) else none)) else (bif Nat.ble pc 8 then (bif Nat.beq pc 7 then some (.iload_n 2, 2, 0, 0, []) else bif Nat.beq pc 8 then some (.iconst (-1), 0, 0, -1, []) else none) else (bif Nat.beq pc 9 then some (.if_icmp .eq 9, 18, 0, 0, []) else bif Nat.beq pc 12 then some (.iload_n 2, 2, 0, 0, []) else bif Nat.beq pc 13 then some (.bipush 7, 0, 0, 7, []) else none))) else (bif Nat.ble pc 24 then (bif Nat.ble pc 18 then (bif Nat.beq pc 15 then some (.if_icmp .ne 16, 31, 0, 0, []) else bif Nat.beq pc 18 then some (.new 114, 2, 0, 0, []) else none) else (bif Nat.beq pc 21 then some (.dup, 0, 0, 0, []) else bif Nat.beq pc 22 then some (.bipush 8, 0, 0, 8, []) else bif Nat.beq pc 24 then some (.iconst 0, 0, 0, 0, []) else none)) else (bif Nat.ble pc 26 then (bif Nat.beq pc 25 then some (.iconst 0, 0, 0, 0, []) else bif Nat.beq pc 26 then some (.aconst_null, 0, 0, 0, []) else none) else (bif Nat.beq pc 27 then some (.invokespecial 116, 25, 5, 0, []) else bif Nat.beq pc 30 then some (.areturn, 0, 0, 0, []) else bif Nat.beq pc 31 then some (.aload_n 0, 0, 0, 0, []) else none)))) else (bif Nat.ble pc 46 then (bif Nat.ble pc 38 then (bif Nat.ble pc 34 then (bif Nat.beq pc 32 then some (.bipush 32, 0, 0, 32, []) else bif Nat.beq pc 34 then some (.invokevirtual 105, 26, 1, 0, []) else none) else (bif Nat.beq pc 37 then some (.iconst 0, 0, 0, 0, []) else bif Nat.beq pc 38 then some (.istore_n 3, 3, 0, 0, []) else none)) else (bif Nat.ble pc 40 then (bif Nat.beq pc 39 then some (.aconst_null, 0, 0, 0, []) else bif Nat.beq pc 40 then some (.astore 4, 4, 0, 0, []) else none) else (bif Nat.beq pc 42 then some (.iload_n 1, 1, 0, 0, []) else bif Nat.beq pc 43 then some (.ifCond .eq 40, 83, 0, 0, []) else bif Nat.beq pc 46 then some (.aload_n 0, 0, 0, 0, []) else none))) else (bif Nat.ble pc 56 then (bif Nat.ble pc 50 then (bif Nat.beq pc 47 then some (.invokevirtual 38, 27, 0, 0, []) else bif Nat.beq pc 50 then some (.bipush 40, 0, 0, 40, []) else none) else (bif Nat.beq pc 52 then some (.if_icmp .ne 31, 83, 0, 0, []) else bif Nat.beq pc 55 then some (.aload_n 0, 0, 0, 0, []) else bif Nat.beq pc 56 then some (.dup, 0, 0, 0, []) else none)) else (bif Nat.ble pc 60 then (bif Nat.beq pc 57 then some (.getfield 31, 10, 5, 0, []) else bif Nat.beq pc 60 then some (.iconst 1, 0, 0, 1, []) else none) else (bif Nat.beq pc 61 then some (.iadd, 0, 0, 0, []) else bif Nat.beq pc 62 then some (.putfield 31, 10, 5, 0, []) else bif Nat.beq pc 65 then some (.aload_n 0, 0, 0, 0, []) else none))))) else (bif Nat.ble pc 101 then (bif Nat.ble pc 83 then (bif Nat.ble pc 72 then (bif Nat.ble pc 68 then (bif Nat.beq pc 66 then some (.ldc 18, 1, 1, 0, []) else bif Nat.beq pc 68 then some (.iconst 1, 0, 0, 1, []) else none) else (bif Nat.beq pc 69 then some (.invokevirtual 119, 28, 2, 0, []) else bif Nat.beq pc 72 then some (.astore 4, 4, 0, 0, []) else none)) else (bif Nat.ble pc 75 then (bif Nat.beq pc 74 then some (.aload_n 0, 0, 0, 0, []) else bif Nat.beq pc 75 then some (.bipush 41, 0, 0, 41, []) else none) else (bif Nat.beq pc 77 then some (.invokevirtual 105, 26, 1, 0, []) else bif Nat.beq pc 80 then some (.goto 11, 91, 0, 0, []) else bif Nat.beq pc 83 then some (.aload_n 0, 0, 0, 0, []) else none))) else (bif Nat.ble pc 92 then (bif Nat.ble pc 87 then (bif Nat.beq pc 84 then some (.sipush 999, 0, 0, 999, []) else bif Nat.beq pc 87 then some (.invokevirtual 99, 32, 1, 0, []) else none) else (bif Nat.beq pc 90 then some (.istore_n 3, 3, 0, 0, []) else bif Nat.beq pc 91 then some (.iconst 0, 0, 0, 0, []) else bif Nat.beq pc 92 then some (.istore 5, 5, 0, 0, []) else none)) else (bif Nat.ble pc 95 then (bif Nat.beq pc 94 then some (.iload_n 2, 2, 0, 0, []) else bif Nat.beq pc 95 then some (.bipush 6, 0, 0, 6, []) else none) else (bif Nat.beq pc 97 then some (.if_icmp .ne 30, 127, 0, 0, []) else bif Nat.beq pc 100 then some (.aload_n 0, 0, 0, 0, []) else bif Nat.beq pc 101 then some (.bipush 32, 0, 0, 32, []) else none)))) else (bif Nat.ble pc 120 then (bif Nat.ble pc 112 then (bif Nat.ble pc 106 then (bif Nat.beq pc 103 then some (.invokevirtual 105, 26, 1, 0, []) else bif Nat.beq pc 106 then some (.aload_n 0, 0, 0, 0, []) else none) else (bif Nat.beq pc 107 then some (.ldc 123, 1, 15, 0, []) else bif Nat.beq pc 109 then some (.invokevirtual 110, 18, 1, 0, []) else bif Nat.beq pc 112 then some (.pop, 0, 0, 0, []) else none)) else (bif Nat.ble pc 114 then (bif Nat.beq pc 113 then some (.aload_n 0, 0, 0, 0, []) else bif Nat.beq pc 114 then some (.bipush 32, 0, 0, 32, []) else none) else (bif Nat.beq pc 116 then some (.invokevirtual 105, 26, 1, 0, []) else bif Nat.beq pc 119 then some (.aload_n 0, 0, 0, 0, []) else bif Nat.beq pc 120 then some (.bipush 7, 0, 0, 7, []) else none))) else (bif Nat.ble pc 131 then (bif Nat.ble pc 125 then (bif Nat.beq pc 122 then some (.invokevirtual 99, 32, 1, 0, []) else bif Nat.beq pc 125 then some (.istore 5, 5, 0, 0, []) else none) else (bif Nat.beq pc 127 then some (.new 114, 2, 0, 0, []) else bif Nat.beq pc 130 then some (.dup, 0, 0, 0, []) else bif Nat.beq pc 131 then some (.iload_n 2, 2, 0, 0, []) else none)) else (bif Nat.ble pc 133 then (bif Nat.beq pc 132 then some (.iload_n 3, 3, 0, 0, []) else bif Nat.beq pc 133 then some (.iload 5, 5, 0, 0, []) else none) else (bif Nat.beq pc 135 then some (.aload 4, 4, 0, 0, []) else bif Nat.beq pc 137 then some (.invokespecial 116, 25, 5, 0, []) else bif Nat.beq pc 140 then some (.areturn, 0, 0, 0, []) else none)))))
def p18 (pc : Nat) : Option PE := bif Nat.ble pc 52 then (bif Nat.ble pc 21 then (bif Nat.ble pc 10 then (bif Nat.ble pc 4 then (bif Nat.beq pc 0 then some (.aload_n 0, 0, 0, 0, []) else bif Nat.beq pc 1 then some (.getfield 31, 10, 5, 0, []) else bif Nat.beq pc 4 then some (.istore_n 2, 2, 0, 0, []) else none) else (bif Nat.ble pc 6 then (bif Nat.beq pc 5 then some (.aload_n 0, 0, 0, 0, []) else bif Nat.beq pc 6 then some (.invokevirtual 42, 19, 0, 0, []) else none) else (bif Nat.beq pc 9 then some (.istore_n 3, 3, 0, 0, []) else bif Nat.beq pc 10 then some (.iconst 0, 0, 0, 0, []) else none))) else (bif Nat.ble pc 14 then (bif Nat.beq pc 11 then some (.istore 4, 4, 0, 0, []) else bif Nat.beq pc 13 then some (.iconst 0, 0, 0, 0, []) else bif Nat.beq pc 14 then some (.istore 5, 5, 0, 0, []) else none) else (bif Nat.ble pc 17 then (bif Nat.beq pc 16 then some (.iconst 0, 0, 0, 0, []) else bif Nat.beq pc 17 then some (.istore 6, 6, 0, 0, []) else none) else (bif Nat.beq pc 19 then some (.iload 6, 6, 0, 0, []) else bif Nat.beq pc 21 then some (.aload_n 1, 1, 0, 0, []) else none)))) else (bif Nat.ble pc 37 then (bif Nat.ble pc 28 then (bif Nat.beq pc 22 then some (.invokevirtual 45, 7, 0, 0, []) else bif Nat.beq pc 25 then some (.if_icmp .gt 70, 95, 0, 0, []) else bif Nat.beq pc 28 then some (.iload 6, 6, 0, 0, []) else none) else (bif Nat.ble pc 31 then (bif Nat.beq pc 30 then some (.aload_n 1, 1, 0, 0, []) else bif Nat.beq pc 31 then some (.invokevirtual 45, 7, 0, 0, []) else none) else (bif Nat.beq pc 34 then some (.if_icmp .eq 14, 48, 0, 0, []) else bif Nat.beq pc 37 then some (.aload_n 1, 1, 0, 0, []) else none))) else (bif Nat.ble pc 43 then (bif Nat.beq pc 38 then some (.iload 6, 6, 0, 0, []) else bif Nat.beq pc 40 then some (.invokevirtual 49, 20, 1, 0, []) else bif Nat.beq pc 43 then some (.bipush 32, 0, 0, 32, []) else none) else (bif Nat.ble pc 48 then (bif Nat.beq pc 45 then some (.if_icmp .ne 44, 89, 0, 0, []) else bif Nat.beq pc 48 then some (.iload 6, 6, 0, 0, []) else none) else (bif Nat.beq pc 50 then some (.iload 4, 4, 0, 0, []) else bif Nat.beq pc 52 then some (.isub, 0, 0, 0, []) else none))))) else (bif Nat.ble pc 74 then (bif Nat.ble pc 61 then (bif Nat.ble pc 55 then (bif Nat.beq pc 53 then some (.iload_n 3, 3, 0, 0, []) else bif Nat.beq pc 54 then some (.iload_n 2, 2, 0, 0, []) else bif Nat.beq pc 55 then some (.isub, 0, 0, 0, []) else none) else (bif Nat.ble pc 59 then (bif Nat.beq pc 56 then some (.if_icmp .ne 24, 80, 0, 0, []) else bif Nat.beq pc 59 then some (.aload_n 0, 0, 0, 0, []) else none) else (bif Nat.beq pc 60 then some (.aload_n 1, 1, 0, 0, []) else bif Nat.beq pc 61 then some (.iload 4, 4, 0, 0, []) else none))) else (bif Nat.ble pc 66 then (bif Nat.beq pc 63 then some (.iload 6, 6, 0, 0, []) else bif Nat.beq pc 65 then some (.iload_n 2, 2, 0, 0, []) else bif Nat.beq pc 66 then some (.invokevirtual 53, 23, 4, 0, []) else none) else (bif Nat.ble pc 72 then (bif Nat.beq pc 69 then some (.ifCond .eq 11, 80, 0, 0, []) else bif Nat.beq pc 72 then some (.aload_n 0, 0, 0, 0, []) else none) else (bif Nat.beq pc 73 then some (.iload_n 3, 3, 0, 0, []) else bif Nat.beq pc 74 then some (.putfield 31, 10, 5, 0, []) else none)))) else (bif Nat.ble pc 87 then (bif Nat.ble pc 80 then (bif Nat.beq pc 77 then some (.iload 5, 5, 0, 0, []) else bif Nat.beq pc 79 then some (.ireturn, 0, 0, 0, []) else bif Nat.beq pc 80 then some (.iinc 5 1, 5, 0, 1, []) else none) else (bif Nat.ble pc 85 then (bif Nat.beq pc 83 then some (.iload 6, 6, 0, 0, []) else bif Nat.beq pc 85 then some (.iconst 1, 0, 0, 1, []) else none) else (bif Nat.beq pc 86 then some (.iadd, 0, 0, 0, []) else bif Nat.beq pc 87 then some (.istore 4, 4, 0, 0, []) else none))) else (bif Nat.ble pc 95 then (bif Nat.beq pc 89 then some (.iinc 6 1, 6, 0, 1, []) else bif Nat.beq pc 92 then some (.goto (-73), 19, 0, 0, []) else bif Nat.beq pc 95 then some (.aload_n 0, 0, 0, 0, []) else none) else (bif Nat.ble pc 97 then (bif Nat.beq pc 96 then some (.iload_n 2, 2, 0, 0, []) else bif Nat.beq pc 97 then some (.invokevirtual 34, 24, 1, 0, []) else none) else (bif Nat.beq pc 100 then some (.iconst (-1), 0, 0, -1, []) else bif Nat.beq pc 101 then some (.ireturn, 0, 0, 0, []) else none)))))
def p19 (pc : Nat) : Option PE := bif Nat.ble pc 23 then (bif Nat.ble pc 10 then (bif Nat.ble pc 4 then (bif Nat.beq pc 0 then some (.aload_n 0, 0, 0, 0, []) else bif Nat.beq pc 1 then some (.getfield 31, 10, 5, 0, []) else bif Nat.beq pc 4 then some (.istore_n 1, 1, 0, 0, []) else none) else (bif Nat.ble pc 6 then (bif Nat.beq pc 5 then some (.iload_n 1, 1, 0, 0, []) else bif Nat.beq pc 6 then some (.aload_n 0, 0, 0, 0, []) else none) else (bif Nat.beq pc 7 then some (.getfield 28, 10, 4, 0, []) else bif Nat.beq pc 10 then some (.if_icmp .ge 40, 50, 0, 0, []) else none))) else (bif Nat.ble pc 15 then (bif Nat.beq pc 13 then some (.iload_n 1, 1, 0, 0, []) else bif Nat.beq pc 14 then some (.aload_n 0, 0, 0, 0, []) else bif Nat.beq pc 15 then some (.getfield 9, 10, 0, 0, []) else none) else (bif Nat.ble pc 19 then (bif Nat.beq pc 18 then some (.arraylength, 0, 0, 0, []) else bif Nat.beq pc 19 then some (.if_icmp .ge 31, 50, 0, 0, []) else none) else (bif Nat.beq pc 22 then some (.aload_n 0, 0, 0, 0, []) else bif Nat.beq pc 23 then some (.getfield 9, 10, 0, 0, []) else none)))) else (bif Nat.ble pc 37 then (bif Nat.ble pc 28 then (bif Nat.beq pc 26 then some (.iload_n 1, 1, 0, 0, []) else bif Nat.beq pc 27 then some (.iaload, 20, 0, 0, []) else bif Nat.beq pc 28 then some (.bipush 97, 0, 0, 97, []) else none) else (bif Nat.ble pc 33 then (bif Nat.beq pc 30 then some (.if_icmp .lt 20, 50, 0, 0, []) else bif Nat.beq pc 33 then some (.aload_n 0, 0, 0, 0, []) else none) else (bif Nat.beq pc 34 then some (.getfield 9, 10, 0, 0, []) else bif Nat.beq pc 37 then some (.iload_n 1, 1, 0, 0, []) else none))) else (bif Nat.ble pc 41 then (bif Nat.beq pc 38 then some (.iaload, 20, 0, 0, []) else bif Nat.beq pc 39 then some (.bipush 122, 0, 0, 122, []) else bif Nat.beq pc 41 then some (.if_icmp .gt 9, 50, 0, 0, []) else none) else (bif Nat.ble pc 47 then (bif Nat.beq pc 44 then some (.iinc 1 1, 1, 0, 1, []) else bif Nat.beq pc 47 then some (.goto (-42), 5, 0, 0, []) else none) else (bif Nat.beq pc 50 then some (.iload_n 1, 1, 0, 0, []) else bif Nat.beq pc 51 then some (.ireturn, 0, 0, 0, []) else none))))
def p20 (pc : Nat) : Option PE := bif Nat.ble pc 11 then (bif Nat.ble pc 4 then (bif Nat.beq pc 0 then some (.aload_n 0, 0, 0, 0, []) else bif Nat.beq pc 1 then some (.invokevirtual 492, 21, 0, 0, []) else bif Nat.beq pc 4 then some (.ifCond .eq 12, 16, 0, 0, []) else none) else (bif Nat.beq pc 7 then some (.aload_n 0, 0, 0, 0, []) else bif Nat.beq pc 8 then some (.getfield 9, 13, 0, 0, []) else bif Nat.beq pc 11 then some (.iload_n 1, 1, 0, 0, []) else none)) else (bif Nat.ble pc 16 then (bif Nat.beq pc 12 then some (.invokestatic 495, 22, 2, 0, []) else bif Nat.beq pc 15 then some (.ireturn, 0, 0, 0, []) else bif Nat.beq pc 16 then some (.aload_n 0, 0, 0, 0, []) else none) else (bif Nat.beq pc 17 then some (.getfield 9, 13, 0, 0, []) else bif Nat.beq pc 20 then some (.iload_n 1, 1, 0, 0, []) else bif Nat.beq pc 24 then some (.ireturn, 0, 0, 0, []) else none))
def p21 (pc : Nat) : Option PE := bif Nat.ble pc 7 then (bif Nat.ble pc 3 then (bif Nat.beq pc 0 then some (.getstatic 38, 0, 0, 1, []) else bif Nat.beq pc 3 then some (.ifCond .eq 14, 17, 0, 0, []) else none) else (bif Nat.beq pc 6 then some (.aload_n 0, 0, 0, 0, []) else bif Nat.beq pc 7 then some (.getfield 15, 13, 1, 0, []) else none)) else (bif Nat.ble pc 13 then (bif Nat.beq pc 10 then some (.ifCond .ne 7, 17, 0, 0, []) else bif Nat.beq pc 13 then some (.iconst 1, 0, 0, 1, []) else none) else (bif Nat.beq pc 14 then some (.goto 4, 18, 0, 0, []) else bif Nat.beq pc 17 then some (.iconst 0, 0, 0, 0, []) else bif Nat.beq pc 18 then some (.ireturn, 0, 0, 0, []) else none))
def p22 (pc : Nat) : Option PE := bif Nat.ble pc 6 then (bif Nat.ble pc 1 then (bif Nat.beq pc 0 then some (.iload_n 1, 1, 0, 0, []) else bif Nat.beq pc 1 then some (.aload_n 0, 0, 0, 0, []) else none) else (bif Nat.beq pc 2 then some (.arraylength, 0, 0, 0, []) else bif Nat.beq pc 3 then some (.invokestatic 9, 0, 8, 0, []) else bif Nat.beq pc 6 then some (.aload_n 0, 0, 0, 0, []) else none)) else (bif Nat.ble pc 9 then (bif Nat.beq pc 7 then some (.iload_n 1, 1, 0, 0, []) else bif Nat.beq pc 8 then some (.baload, 0, 0, 0, []) else bif Nat.beq pc 9 then some (.sipush 255, 0, 0, 255, []) else none) else (bif Nat.beq pc 12 then some (.iand, 0, 0, 0, []) else bif Nat.beq pc 13 then some (.i2c, 0, 0, 0, []) else bif Nat.beq pc 14 then some (.ireturn, 0, 0, 0, []) else none))
def p23 (pc : Nat) : Option PE := bif Nat.ble pc 26 then (bif Nat.ble pc 13 then (bif Nat.ble pc 5 then (bif Nat.ble pc 1 then (bif Nat.beq pc 0 then some (.iload_n 2, 2, 0, 0, []) else bif Nat.beq pc 1 then some (.istore 5, 5, 0, 0, []) else none) else (bif Nat.beq pc 3 then some (.iload 5, 5, 0, 0, []) else bif Nat.beq pc 5 then some (.iload_n 3, 3, 0, 0, []) else none)) else (bif Nat.ble pc 9 then (bif Nat.beq pc 6 then some (.if_icmp .ge 51, 57, 0, 0, []) else bif Nat.beq pc 9 then some (.iload 4, 4, 0, 0, []) else none) else (bif Nat.beq pc 11 then some (.iload 5, 5, 0, 0, []) else bif Nat.beq pc 13 then some (.iadd, 0, 0, 0, []) else none))) else (bif Nat.ble pc 18 then (bif Nat.ble pc 15 then (bif Nat.beq pc 14 then some (.iload_n 2, 2, 0, 0, []) else bif Nat.beq pc 15 then some (.isub, 0, 0, 0, []) else none) else (bif Nat.beq pc 16 then some (.istore 6, 6, 0, 0, []) else bif Nat.beq pc 18 then some (.iload 6, 6, 0, 0, []) else none)) else (bif Nat.ble pc 23 then (bif Nat.beq pc 20 then some (.ifCond .lt 29, 49, 0, 0, []) else bif Nat.beq pc 23 then some (.iload 6, 6, 0, 0, []) else none) else (bif Nat.beq pc 25 then some (.aload_n 0, 0, 0, 0, []) else bif Nat.beq pc 26 then some (.getfield 9, 10, 0, 0, []) else none)))) else (bif Nat.ble pc 41 then (bif Nat.ble pc 34 then (bif Nat.ble pc 30 then (bif Nat.beq pc 29 then some (.arraylength, 0, 0, 0, []) else bif Nat.beq pc 30 then some (.if_icmp .ge 19, 49, 0, 0, []) else none) else (bif Nat.beq pc 33 then some (.aload_n 0, 0, 0, 0, []) else bif Nat.beq pc 34 then some (.getfield 9, 10, 0, 0, []) else none)) else (bif Nat.ble pc 39 then (bif Nat.beq pc 37 then some (.iload 6, 6, 0, 0, []) else bif Nat.beq pc 39 then some (.iaload, 20, 0, 0, []) else none) else (bif Nat.beq pc 40 then some (.aload_n 1, 1, 0, 0, []) else bif Nat.beq pc 41 then some (.iload 5, 5, 0, 0, []) else none))) else (bif Nat.ble pc 50 then (bif Nat.ble pc 46 then (bif Nat.beq pc 43 then some (.invokevirtual 49, 20, 1, 0, []) else bif Nat.beq pc 46 then some (.if_icmp .eq 5, 51, 0, 0, []) else none) else (bif Nat.beq pc 49 then some (.iconst 0, 0, 0, 0, []) else bif Nat.beq pc 50 then some (.ireturn, 0, 0, 0, []) else none)) else (bif Nat.ble pc 54 then (bif Nat.beq pc 51 then some (.iinc 5 1, 5, 0, 1, []) else bif Nat.beq pc 54 then some (.goto (-51), 3, 0, 0, []) else none) else (bif Nat.beq pc 57 then some (.iconst 1, 0, 0, 1, []) else bif Nat.beq pc 58 then some (.ireturn, 0, 0, 0, []) else none))))
def p24 (pc : Nat) : Option PE := bif Nat.ble pc 9 then (bif Nat.ble pc 4 then (bif Nat.beq pc 0 then some (.aload_n 0, 0, 0, 0, []) else bif Nat.beq pc 1 then some (.getfield 24, 10, 6, 0, []) else bif Nat.beq pc 4 then some (.iconst (-1), 0, 0, -1, []) else none) else (bif Nat.beq pc 5 then some (.if_icmp .ne 8, 13, 0, 0, []) else bif Nat.beq pc 8 then some (.aload_n 0, 0, 0, 0, []) else bif Nat.beq pc 9 then some (.iload_n 1, 1, 0, 0, []) else none)) else (bif Nat.ble pc 14 then (bif Nat.beq pc 10 then some (.putfield 24, 10, 6, 0, []) else bif Nat.beq pc 13 then some (.aload_n 0, 0, 0, 0, []) else bif Nat.beq pc 14 then some (.aload_n 0, 0, 0, 0, []) else none) else (bif Nat.beq pc 15 then some (.getfield 28, 10, 4, 0, []) else bif Nat.beq pc 18 then some (.putfield 31, 10, 5, 0, []) else bif Nat.beq pc 21 then some (.return_, 0, 0, 0, []) else none))
def p25 (pc : Nat) : Option PE := bif Nat.ble pc 10 then (bif Nat.ble pc 4 then (bif Nat.beq pc 0 then some (.aload_n 0, 0, 0, 0, []) else bif Nat.beq pc 1 then some (.invokespecial 3, 0, 0, 0, []) else bif Nat.beq pc 4 then some (.aload_n 0, 0, 0, 0, []) else none) else (bif Nat.ble pc 6 then (bif Nat.beq pc 5 then some (.iload_n 1, 1, 0, 0, []) else bif Nat.beq pc 6 then some (.putfield 9, 2, 0, 0, []) else none) else (bif Nat.beq pc 9 then some (.aload_n 0, 0, 0, 0, []) else bif Nat.beq pc 10 then some (.iload_n 2, 2, 0, 0, []) else none))) else (bif Nat.ble pc 16 then (bif Nat.ble pc 14 then (bif Nat.beq pc 11 then some (.putfield 15, 2, 1, 0, []) else bif Nat.beq pc 14 then some (.aload_n 0, 0, 0, 0, []) else none) else (bif Nat.beq pc 15 then some (.iload_n 3, 3, 0, 0, []) else bif Nat.beq pc 16 then some (.putfield 18, 2, 2, 0, []) else none)) else (bif Nat.ble pc 20 then (bif Nat.beq pc 19 then some (.aload_n 0, 0, 0, 0, []) else bif Nat.beq pc 20 then some (.aload 4, 4, 0, 0, []) else none) else (bif Nat.beq pc 22 then some (.putfield 21, 2, 3, 0, []) else bif Nat.beq pc 25 then some (.return_, 0, 0, 0, []) else none)))
def p26 (pc : Nat) : Option PE := bif Nat.ble pc 13 then (bif Nat.ble pc 5 then (bif Nat.ble pc 1 then (bif Nat.beq pc 0 then some (.aload_n 0, 0, 0, 0, []) else bif Nat.beq pc 1 then some (.invokevirtual 38, 27, 0, 0, []) else none) else (bif Nat.beq pc 4 then some (.iload_n 1, 1, 0, 0, []) else bif Nat.beq pc 5 then some (.if_icmp .ne 16, 21, 0, 0, []) else none)) else (bif Nat.ble pc 9 then (bif Nat.beq pc 8 then some (.aload_n 0, 0, 0, 0, []) else bif Nat.beq pc 9 then some (.dup, 0, 0, 0, []) else none) else (bif Nat.beq pc 10 then some (.getfield 31, 10, 5, 0, []) else bif Nat.beq pc 13 then some (.iconst 1, 0, 0, 1, []) else none))) else (bif Nat.ble pc 21 then (bif Nat.ble pc 15 then (bif Nat.beq pc 14 then some (.iadd, 0, 0, 0, []) else bif Nat.beq pc 15 then some (.putfield 31, 10, 5, 0, []) else none) else (bif Nat.beq pc 18 then some (.goto 11, 29, 0, 0, []) else bif Nat.beq pc 21 then some (.aload_n 0, 0, 0, 0, []) else none)) else (bif Nat.ble pc 23 then (bif Nat.beq pc 22 then some (.aload_n 0, 0, 0, 0, []) else bif Nat.beq pc 23 then some (.getfield 31, 10, 5, 0, []) else none) else (bif Nat.beq pc 26 then some (.invokevirtual 34, 24, 1, 0, []) else bif Nat.beq pc 29 then some (.return_, 0, 0, 0, []) else none)))
def p27 (pc : Nat) : Option PE := bif Nat.ble pc 22 then (bif Nat.ble pc 8 then (bif Nat.ble pc 1 then (bif Nat.beq pc 0 then some (.aload_n 0, 0, 0, 0, []) else bif Nat.beq pc 1 then some (.getfield 31, 10, 5, 0, []) else none) else (bif Nat.beq pc 4 then some (.ifCond .lt 38, 42, 0, 0, []) else bif Nat.beq pc 7 then some (.aload_n 0, 0, 0, 0, []) else bif Nat.beq pc 8 then some (.getfield 31, 10, 5, 0, []) else none)) else (bif Nat.ble pc 15 then (bif Nat.beq pc 11 then some (.aload_n 0, 0, 0, 0, []) else bif Nat.beq pc 12 then some (.getfield 28, 10, 4, 0, []) else bif Nat.beq pc 15 then some (.if_icmp .ge 27, 42, 0, 0, []) else none) else (bif Nat.beq pc 18 then some (.aload_n 0, 0, 0, 0, []) else bif Nat.beq pc 19 then some (.getfield 31, 10, 5, 0, []) else bif Nat.beq pc 22 then some (.aload_n 0, 0, 0, 0, []) else none))) else (bif Nat.ble pc 31 then (bif Nat.ble pc 26 then (bif Nat.beq pc 23 then some (.getfield 9, 10, 0, 0, []) else bif Nat.beq pc 26 then some (.arraylength, 0, 0, 0, []) else none) else (bif Nat.beq pc 27 then some (.if_icmp .ge 15, 42, 0, 0, []) else bif Nat.beq pc 30 then some (.aload_n 0, 0, 0, 0, []) else bif Nat.beq pc 31 then some (.getfield 9, 10, 0, 0, []) else none)) else (bif Nat.ble pc 38 then (bif Nat.beq pc 34 then some (.aload_n 0, 0, 0, 0, []) else bif Nat.beq pc 35 then some (.getfield 31, 10, 5, 0, []) else bif Nat.beq pc 38 then some (.iaload, 20, 0, 0, []) else none) else (bif Nat.beq pc 39 then some (.goto 4, 43, 0, 0, []) else bif Nat.beq pc 42 then some (.iconst 0, 0, 0, 0, []) else bif Nat.beq pc 43 then some (.ireturn, 0, 0, 0, []) else none)))
def p28 (pc : Nat) : Option PE := bif Nat.ble pc 12 then (bif Nat.ble pc 5 then (bif Nat.ble pc 1 then (bif Nat.beq pc 0 then some (.aload_n 0, 0, 0, 0, []) else bif Nat.beq pc 1 then some (.aload_n 1, 1, 0, 0, []) else none) else (bif Nat.beq pc 2 then some (.putfield 20, 10, 2, 0, []) else bif Nat.beq pc 5 then some (.aload_n 0, 0, 0, 0, []) else none)) else (bif Nat.ble pc 7 then (bif Nat.beq pc 6 then some (.iconst 0, 0, 0, 0, []) else bif Nat.beq pc 7 then some (.putfield 61, 10, 3, 0, []) else none) else (bif Nat.beq pc 10 then some (.aload_n 0, 0, 0, 0, []) else bif Nat.beq pc 11 then some (.iconst 0, 0, 0, 0, []) else bif Nat.beq pc 12 then some (.iload_n 2, 2, 0, 0, []) else none))) else (bif Nat.ble pc 21 then (bif Nat.ble pc 16 then (bif Nat.beq pc 13 then some (.invokevirtual 64, 29, 2, 0, []) else bif Nat.beq pc 16 then some (.new 68, 4, 0, 0, []) else none) else (bif Nat.beq pc 19 then some (.dup, 0, 0, 0, []) else bif Nat.beq pc 20 then some (.aload_n 0, 0, 0, 0, []) else bif Nat.beq pc 21 then some (.getfield 15, 10, 1, 0, []) else none)) else (bif Nat.ble pc 25 then (bif Nat.beq pc 24 then some (.aload_n 0, 0, 0, 0, []) else bif Nat.beq pc 25 then some (.getfield 61, 10, 3, 0, []) else none) else (bif Nat.beq pc 28 then some (.invokestatic 70, 43, 2, 0, []) else bif Nat.beq pc 31 then some (.invokespecial 76, 44, 2, 0, []) else bif Nat.beq pc 34 then some (.areturn, 0, 0, 0, []) else none)))
def p29 (pc : Nat) : Option PE := bif Nat.ble pc 41 then (bif Nat.ble pc 16 then (bif Nat.ble pc 7 then (bif Nat.ble pc 2 then (bif Nat.beq pc 0 then some (.iload_n 1, 1, 0, 0, []) else bif Nat.beq pc 1 then some (.iconst 2, 0, 0, 2, []) else bif Nat.beq pc 2 then some (.if_icmp .le 9, 11, 0, 0, []) else none) else (bif Nat.beq pc 5 then some (.aload_n 0, 0, 0, 0, []) else bif Nat.beq pc 6 then some (.iload_n 2, 2, 0, 0, []) else bif Nat.beq pc 7 then some (.invokevirtual 79, 30, 1, 0, []) else none)) else (bif Nat.ble pc 12 then (bif Nat.beq pc 10 then some (.return_, 0, 0, 0, []) else bif Nat.beq pc 11 then some (.aload_n 0, 0, 0, 0, []) else bif Nat.beq pc 12 then some (.iload_n 1, 1, 0, 0, []) else none) else (bif Nat.ble pc 14 then (bif Nat.beq pc 13 then some (.iconst 1, 0, 0, 1, []) else bif Nat.beq pc 14 then some (.iadd, 0, 0, 0, []) else none) else (bif Nat.beq pc 15 then some (.iload_n 2, 2, 0, 0, []) else bif Nat.beq pc 16 then some (.invokevirtual 64, 29, 2, 0, []) else none)))) else (bif Nat.ble pc 30 then (bif Nat.ble pc 23 then (bif Nat.beq pc 19 then some (.iload_n 1, 1, 0, 0, []) else bif Nat.beq pc 20 then some (.ifCond .ne 7, 27, 0, 0, []) else bif Nat.beq pc 23 then some (.iconst 1, 0, 0, 1, []) else none) else (bif Nat.beq pc 24 then some (.goto 6, 30, 0, 0, []) else bif Nat.beq pc 27 then some (.sipush 160, 0, 0, 160, []) else bif Nat.beq pc 30 then some (.istore_n 3, 3, 0, 0, []) else none)) else (bif Nat.ble pc 34 then (bif Nat.beq pc 31 then some (.iconst 0, 0, 0, 0, []) else bif Nat.beq pc 32 then some (.istore 4, 4, 0, 0, []) else bif Nat.beq pc 34 then some (.iload 4, 4, 0, 0, []) else none) else (bif Nat.ble pc 37 then (bif Nat.beq pc 36 then some (.iload_n 3, 3, 0, 0, []) else bif Nat.beq pc 37 then some (.if_icmp .ge 54, 91, 0, 0, []) else none) else (bif Nat.beq pc 40 then some (.aload_n 0, 0, 0, 0, []) else bif Nat.beq pc 41 then some (.invokevirtual 38, 27, 0, 0, []) else none))))) else (bif Nat.ble pc 66 then (bif Nat.ble pc 53 then (bif Nat.ble pc 47 then (bif Nat.beq pc 44 then some (.istore 5, 5, 0, 0, []) else bif Nat.beq pc 46 then some (.iload_n 1, 1, 0, 0, []) else bif Nat.beq pc 47 then some (.invokestatic 82, 42, 1, 0, []) else none) else (bif Nat.beq pc 50 then some (.iload 5, 5, 0, 0, []) else bif Nat.beq pc 52 then some (.i2c, 0, 0, 0, []) else bif Nat.beq pc 53 then some (.invokevirtual 86, 35, 1, 0, []) else none)) else (bif Nat.ble pc 60 then (bif Nat.beq pc 56 then some (.ifCond .ge 4, 60, 0, 0, []) else bif Nat.beq pc 59 then some (.return_, 0, 0, 0, []) else bif Nat.beq pc 60 then some (.aload_n 0, 0, 0, 0, []) else none) else (bif Nat.ble pc 62 then (bif Nat.beq pc 61 then some (.dup, 0, 0, 0, []) else bif Nat.beq pc 62 then some (.getfield 31, 10, 5, 0, []) else none) else (bif Nat.beq pc 65 then some (.iconst 1, 0, 0, 1, []) else bif Nat.beq pc 66 then some (.iadd, 0, 0, 0, []) else none)))) else (bif Nat.ble pc 75 then (bif Nat.ble pc 71 then (bif Nat.beq pc 67 then some (.putfield 31, 10, 5, 0, []) else bif Nat.beq pc 70 then some (.aload_n 0, 0, 0, 0, []) else bif Nat.beq pc 71 then some (.iload_n 1, 1, 0, 0, []) else none) else (bif Nat.ble pc 73 then (bif Nat.beq pc 72 then some (.iconst 1, 0, 0, 1, []) else bif Nat.beq pc 73 then some (.iadd, 0, 0, 0, []) else none) else (bif Nat.beq pc 74 then some (.iload_n 2, 2, 0, 0, []) else bif Nat.beq pc 75 then some (.invokevirtual 64, 29, 2, 0, []) else none))) else (bif Nat.ble pc 81 then (bif Nat.beq pc 78 then some (.aload_n 0, 0, 0, 0, []) else bif Nat.beq pc 79 then some (.iload 5, 5, 0, 0, []) else bif Nat.beq pc 81 then some (.ineg, 0, 0, 0, []) else none) else (bif Nat.ble pc 85 then (bif Nat.beq pc 82 then some (.invokevirtual 90, 33, 1, 0, []) else bif Nat.beq pc 85 then some (.iinc 4 1, 4, 0, 1, []) else none) else (bif Nat.beq pc 88 then some (.goto (-54), 34, 0, 0, []) else bif Nat.beq pc 91 then some (.return_, 0, 0, 0, []) else none)))))
def p30 (pc : Nat) : Option PE := bif Nat.ble pc 52 then (bif Nat.ble pc 25 then (bif Nat.ble pc 12 then (bif Nat.ble pc 4 then (bif Nat.beq pc 0 then some (.aload_n 0, 0, 0, 0, []) else bif Nat.beq pc 1 then some (.invokevirtual 38, 27, 0, 0, []) else bif Nat.beq pc 4 then some (.istore_n 2, 2, 0, 0, []) else none) else (bif Nat.ble pc 6 then (bif Nat.beq pc 5 then some (.iload_n 2, 2, 0, 0, []) else bif Nat.beq pc 6 then some (.invokestatic 57, 31, 1, 0, []) else none) else (bif Nat.beq pc 9 then some (.ifCond .eq 15, 24, 0, 0, []) else bif Nat.beq pc 12 then some (.aload_n 0, 0, 0, 0, []) else none))) else (bif Nat.ble pc 17 then (bif Nat.beq pc 13 then some (.aload_n 0, 0, 0, 0, []) else bif Nat.beq pc 14 then some (.sipush 9999, 0, 0, 9999, []) else bif Nat.beq pc 17 then some (.invokevirtual 99, 32, 1, 0, []) else none) else (bif Nat.ble pc 23 then (bif Nat.beq pc 20 then some (.invokevirtual 90, 33, 1, 0, []) else bif Nat.beq pc 23 then some (.return_, 0, 0, 0, []) else none) else (bif Nat.beq pc 24 then some (.iload_n 2, 2, 0, 0, []) else bif Nat.beq pc 25 then some (.bipush 45, 0, 0, 45, []) else none)))) else (bif Nat.ble pc 40 then (bif Nat.ble pc 31 then (bif Nat.beq pc 27 then some (.if_icmp .eq 14, 41, 0, 0, []) else bif Nat.beq pc 30 then some (.iload_n 2, 2, 0, 0, []) else bif Nat.beq pc 31 then some (.bipush 40, 0, 0, 40, []) else none) else (bif Nat.ble pc 36 then (bif Nat.beq pc 33 then some (.if_icmp .eq 8, 41, 0, 0, []) else bif Nat.beq pc 36 then some (.aload_n 0, 0, 0, 0, []) else none) else (bif Nat.beq pc 37 then some (.invokevirtual 102, 34, 0, 0, []) else bif Nat.beq pc 40 then some (.return_, 0, 0, 0, []) else none))) else (bif Nat.ble pc 44 then (bif Nat.beq pc 41 then some (.iload_n 1, 1, 0, 0, []) else bif Nat.beq pc 42 then some (.bipush 6, 0, 0, 6, []) else bif Nat.beq pc 44 then some (.if_icmp .lt 12, 56, 0, 0, []) else none) else (bif Nat.ble pc 48 then (bif Nat.beq pc 47 then some (.aload_n 0, 0, 0, 0, []) else bif Nat.beq pc 48 then some (.aload_n 0, 0, 0, 0, []) else none) else (bif Nat.beq pc 49 then some (.getfield 31, 10, 5, 0, []) else bif Nat.beq pc 52 then some (.invokevirtual 34, 24, 1, 0, []) else none))))) else (bif Nat.ble pc 75 then (bif Nat.ble pc 63 then (bif Nat.ble pc 57 then (bif Nat.beq pc 55 then some (.return_, 0, 0, 0, []) else bif Nat.beq pc 56 then some (.aload_n 0, 0, 0, 0, []) else bif Nat.beq pc 57 then some (.dup, 0, 0, 0, []) else none) else (bif Nat.ble pc 61 then (bif Nat.beq pc 58 then some (.getfield 31, 10, 5, 0, []) else bif Nat.beq pc 61 then some (.iconst 1, 0, 0, 1, []) else none) else (bif Nat.beq pc 62 then some (.iadd, 0, 0, 0, []) else bif Nat.beq pc 63 then some (.putfield 31, 10, 5, 0, []) else none))) else (bif Nat.ble pc 69 then (bif Nat.beq pc 66 then some (.iload_n 2, 2, 0, 0, []) else bif Nat.beq pc 67 then some (.bipush 45, 0, 0, 45, []) else bif Nat.beq pc 69 then some (.if_icmp .ne 20, 89, 0, 0, []) else none) else (bif Nat.ble pc 73 then (bif Nat.beq pc 72 then some (.aload_n 0, 0, 0, 0, []) else bif Nat.beq pc 73 then some (.iload_n 1, 1, 0, 0, []) else none) else (bif Nat.beq pc 74 then some (.iconst 1, 0, 0, 1, []) else bif Nat.beq pc 75 then some (.iadd, 0, 0, 0, []) else none)))) else (bif Nat.ble pc 90 then (bif Nat.ble pc 80 then (bif Nat.beq pc 76 then some (.invokevirtual 79, 30, 1, 0, []) else bif Nat.beq pc 79 then some (.aload_n 0, 0, 0, 0, []) else bif Nat.beq pc 80 then some (.sipush (-1000), 0, 0, -1000, []) else none) else (bif Nat.ble pc 86 then (bif Nat.beq pc 83 then some (.invokevirtual 90, 33, 1, 0, []) else bif Nat.beq pc 86 then some (.goto 17, 103, 0, 0, []) else none) else (bif Nat.beq pc 89 then some (.aload_n 0, 0, 0, 0, []) else bif Nat.beq pc 90 then some (.iconst 0, 0, 0, 0, []) else none))) else (bif Nat.ble pc 94 then (bif Nat.ble pc 92 then (bif Nat.beq pc 91 then some (.iload_n 1, 1, 0, 0, []) else bif Nat.beq pc 92 then some (.iconst 1, 0, 0, 1, []) else none) else (bif Nat.beq pc 93 then some (.iadd, 0, 0, 0, []) else bif Nat.beq pc 94 then some (.invokevirtual 64, 29, 2, 0, []) else none)) else (bif Nat.ble pc 98 then (bif Nat.beq pc 97 then some (.aload_n 0, 0, 0, 0, []) else bif Nat.beq pc 98 then some (.bipush 41, 0, 0, 41, []) else none) else (bif Nat.beq pc 100 then some (.invokevirtual 105, 26, 1, 0, []) else bif Nat.beq pc 103 then some (.return_, 0, 0, 0, []) else none)))))
def p31 (pc : Nat) : Option PE := bif Nat.ble pc 7 then (bif Nat.ble pc 1 then (bif Nat.beq pc 0 then some (.iload_n 0, 0, 0, 0, []) else bif Nat.beq pc 1 then some (.bipush 48, 0, 0, 48, []) else none) else (bif Nat.beq pc 3 then some (.if_icmp .lt 13, 16, 0, 0, []) else bif Nat.beq pc 6 then some (.iload_n 0, 0, 0, 0, []) else bif Nat.beq pc 7 then some (.bipush 57, 0, 0, 57, []) else none)) else (bif Nat.ble pc 12 then (bif Nat.beq pc 9 then some (.if_icmp .gt 7, 16, 0, 0, []) else bif Nat.beq pc 12 then some (.iconst 1, 0, 0, 1, []) else none) else (bif Nat.beq pc 13 then some (.goto 4, 17, 0, 0, []) else bif Nat.beq pc 16 then some (.iconst 0, 0, 0, 0, []) else bif Nat.beq pc 17 then some (.ireturn, 0, 0, 0, []) else none))
def p32 (pc : Nat) : Option PE := bif Nat.ble pc 35 then (bif Nat.ble pc 13 then (bif Nat.ble pc 6 then (bif Nat.ble pc 1 then (bif Nat.beq pc 0 then some (.aload_n 0, 0, 0, 0, []) else bif Nat.beq pc 1 then some (.getfield 31, 10, 5, 0, []) else none) else (bif Nat.beq pc 4 then some (.istore_n 2, 2, 0, 0, []) else bif Nat.beq pc 5 then some (.iconst 0, 0, 0, 0, []) else bif Nat.beq pc 6 then some (.istore_n 3, 3, 0, 0, []) else none)) else (bif Nat.ble pc 8 then (bif Nat.beq pc 7 then some (.iconst 0, 0, 0, 0, []) else bif Nat.beq pc 8 then some (.istore 4, 4, 0, 0, []) else none) else (bif Nat.beq pc 10 then some (.iload 4, 4, 0, 0, []) else bif Nat.beq pc 12 then some (.iconst 4, 0, 0, 4, []) else bif Nat.beq pc 13 then some (.if_icmp .ge 42, 55, 0, 0, []) else none))) else (bif Nat.ble pc 26 then (bif Nat.ble pc 17 then (bif Nat.beq pc 16 then some (.aload_n 0, 0, 0, 0, []) else bif Nat.beq pc 17 then some (.invokevirtual 38, 27, 0, 0, []) else none) else (bif Nat.beq pc 20 then some (.invokestatic 57, 31, 1, 0, []) else bif Nat.beq pc 23 then some (.ifCond .eq 32, 55, 0, 0, []) else bif Nat.beq pc 26 then some (.iload_n 3, 3, 0, 0, []) else none)) else (bif Nat.ble pc 30 then (bif Nat.beq pc 27 then some (.bipush 10, 0, 0, 10, []) else bif Nat.beq pc 29 then some (.imul, 0, 0, 0, []) else bif Nat.beq pc 30 then some (.aload_n 0, 0, 0, 0, []) else none) else (bif Nat.beq pc 31 then some (.invokevirtual 38, 27, 0, 0, []) else bif Nat.beq pc 34 then some (.iadd, 0, 0, 0, []) else bif Nat.beq pc 35 then some (.bipush 48, 0, 0, 48, []) else none)))) else (bif Nat.ble pc 55 then (bif Nat.ble pc 41 then (bif Nat.ble pc 38 then (bif Nat.beq pc 37 then some (.isub, 0, 0, 0, []) else bif Nat.beq pc 38 then some (.istore_n 3, 3, 0, 0, []) else none) else (bif Nat.beq pc 39 then some (.aload_n 0, 0, 0, 0, []) else bif Nat.beq pc 40 then some (.dup, 0, 0, 0, []) else bif Nat.beq pc 41 then some (.getfield 31, 10, 5, 0, []) else none)) else (bif Nat.ble pc 46 then (bif Nat.beq pc 44 then some (.iconst 1, 0, 0, 1, []) else bif Nat.beq pc 45 then some (.iadd, 0, 0, 0, []) else bif Nat.beq pc 46 then some (.putfield 31, 10, 5, 0, []) else none) else (bif Nat.beq pc 49 then some (.iinc 4 1, 4, 0, 1, []) else bif Nat.beq pc 52 then some (.goto (-42), 10, 0, 0, []) else bif Nat.beq pc 55 then some (.iload 4, 4, 0, 0, []) else none))) else (bif Nat.ble pc 65 then (bif Nat.ble pc 60 then (bif Nat.beq pc 57 then some (.ifCond .eq 8, 65, 0, 0, []) else bif Nat.beq pc 60 then some (.iload_n 3, 3, 0, 0, []) else none) else (bif Nat.beq pc 61 then some (.iload_n 1, 1, 0, 0, []) else bif Nat.beq pc 62 then some (.if_icmp .le 10, 72, 0, 0, []) else bif Nat.beq pc 65 then some (.aload_n 0, 0, 0, 0, []) else none)) else (bif Nat.ble pc 70 then (bif Nat.beq pc 66 then some (.iload_n 2, 2, 0, 0, []) else bif Nat.beq pc 67 then some (.invokevirtual 34, 24, 1, 0, []) else bif Nat.beq pc 70 then some (.iconst 0, 0, 0, 0, []) else none) else (bif Nat.beq pc 71 then some (.ireturn, 0, 0, 0, []) else bif Nat.beq pc 72 then some (.iload_n 3, 3, 0, 0, []) else bif Nat.beq pc 73 then some (.ireturn, 0, 0, 0, []) else none))))
def p33 (pc : Nat) : Option PE := bif Nat.ble pc 16 then (bif Nat.ble pc 5 then (bif Nat.ble pc 1 then (bif Nat.beq pc 0 then some (.aload_n 0, 0, 0, 0, []) else bif Nat.beq pc 1 then some (.getfield 61, 10, 3, 0, []) else none) else (bif Nat.beq pc 4 then some (.aload_n 0, 0, 0, 0, []) else bif Nat.beq pc 5 then some (.getfield 15, 10, 1, 0, []) else none)) else (bif Nat.ble pc 9 then (bif Nat.beq pc 8 then some (.arraylength, 0, 0, 0, []) else bif Nat.beq pc 9 then some (.if_icmp .ge 23, 32, 0, 0, []) else none) else (bif Nat.beq pc 12 then some (.aload_n 0, 0, 0, 0, []) else bif Nat.beq pc 13 then some (.getfield 15, 10, 1, 0, []) else bif Nat.beq pc 16 then some (.aload_n 0, 0, 0, 0, []) else none))) else (bif Nat.ble pc 23 then (bif Nat.ble pc 20 then (bif Nat.beq pc 17 then some (.getfield 61, 10, 3, 0, []) else bif Nat.beq pc 20 then some (.iload_n 1, 1, 0, 0, []) else none) else (bif Nat.beq pc 21 then some (.iastore, 0, 0, 0, []) else bif Nat.beq pc 22 then some (.aload_n 0, 0, 0, 0, []) else bif Nat.beq pc 23 then some (.dup, 0, 0, 0, []) else none)) else (bif Nat.ble pc 27 then (bif Nat.beq pc 24 then some (.getfield 61, 10, 3, 0, []) else bif Nat.beq pc 27 then some (.iconst 1, 0, 0, 1, []) else none) else (bif Nat.beq pc 28 then some (.iadd, 0, 0, 0, []) else bif Nat.beq pc 29 then some (.putfield 61, 10, 3, 0, []) else bif Nat.beq pc 32 then some (.return_, 0, 0, 0, []) else none)))
def p34 (pc : Nat) : Option PE := bif Nat.ble pc 27 then (bif Nat.ble pc 13 then (bif Nat.ble pc 5 then (bif Nat.ble pc 1 then (bif Nat.beq pc 0 then some (.aload_n 0, 0, 0, 0, []) else bif Nat.beq pc 1 then some (.getfield 20, 10, 2, 0, []) else none) else (bif Nat.beq pc 4 then some (.aload_n 0, 0, 0, 0, []) else bif Nat.beq pc 5 then some (.invokevirtual 38, 27, 0, 0, []) else none)) else (bif Nat.ble pc 9 then (bif Nat.beq pc 8 then some (.i2c, 0, 0, 0, []) else bif Nat.beq pc 9 then some (.invokevirtual 86, 35, 1, 0, []) else none) else (bif Nat.beq pc 12 then some (.istore_n 1, 1, 0, 0, []) else bif Nat.beq pc 13 then some (.iload_n 1, 1, 0, 0, []) else none))) else (bif Nat.ble pc 21 then (bif Nat.ble pc 17 then (bif Nat.beq pc 14 then some (.ifCond .lt 16, 30, 0, 0, []) else bif Nat.beq pc 17 then some (.aload_n 0, 0, 0, 0, []) else none) else (bif Nat.beq pc 18 then some (.invokevirtual 42, 19, 0, 0, []) else bif Nat.beq pc 21 then some (.aload_n 0, 0, 0, 0, []) else none)) else (bif Nat.ble pc 25 then (bif Nat.beq pc 22 then some (.getfield 31, 10, 5, 0, []) else bif Nat.beq pc 25 then some (.iconst 1, 0, 0, 1, []) else none) else (bif Nat.beq pc 26 then some (.iadd, 0, 0, 0, []) else bif Nat.beq pc 27 then some (.if_icmp .eq 12, 39, 0, 0, []) else none)))) else (bif Nat.ble pc 41 then (bif Nat.ble pc 35 then (bif Nat.ble pc 31 then (bif Nat.beq pc 30 then some (.aload_n 0, 0, 0, 0, []) else bif Nat.beq pc 31 then some (.aload_n 0, 0, 0, 0, []) else none) else (bif Nat.beq pc 32 then some (.getfield 31, 10, 5, 0, []) else bif Nat.beq pc 35 then some (.invokevirtual 34, 24, 1, 0, []) else none)) else (bif Nat.ble pc 39 then (bif Nat.beq pc 38 then some (.return_, 0, 0, 0, []) else bif Nat.beq pc 39 then some (.aload_n 0, 0, 0, 0, []) else none) else (bif Nat.beq pc 40 then some (.dup, 0, 0, 0, []) else bif Nat.beq pc 41 then some (.getfield 31, 10, 5, 0, []) else none))) else (bif Nat.ble pc 49 then (bif Nat.ble pc 45 then (bif Nat.beq pc 44 then some (.iconst 1, 0, 0, 1, []) else bif Nat.beq pc 45 then some (.iadd, 0, 0, 0, []) else none) else (bif Nat.beq pc 46 then some (.putfield 31, 10, 5, 0, []) else bif Nat.beq pc 49 then some (.aload_n 0, 0, 0, 0, []) else none)) else (bif Nat.ble pc 53 then (bif Nat.beq pc 50 then some (.sipush 10000, 0, 0, 10000, []) else bif Nat.beq pc 53 then some (.iload_n 1, 1, 0, 0, []) else none) else (bif Nat.beq pc 54 then some (.iadd, 0, 0, 0, []) else bif Nat.beq pc 55 then some (.invokevirtual 90, 33, 1, 0, []) else bif Nat.beq pc 58 then some (.return_, 0, 0, 0, []) else none))))
def p35 (pc : Nat) : Option PE := bif Nat.ble pc 1 then (bif Nat.beq pc 0 then some (.aload_n 0, 0, 0, 0, []) else bif Nat.beq pc 1 then some (.iload_n 1, 1, 0, 0, []) else none) else (bif Nat.beq pc 2 then some (.iconst 0, 0, 0, 0, []) else bif Nat.beq pc 3 then some (.invokevirtual 633, 36, 2, 0, []) else bif Nat.beq pc 6 then some (.ireturn, 0, 0, 0, []) else none)
def p36 (pc : Nat) : Option PE := bif Nat.ble pc 14 then (bif Nat.ble pc 7 then (bif Nat.ble pc 1 then (bif Nat.beq pc 0 then some (.aload_n 0, 0, 0, 0, []) else bif Nat.beq pc 1 then some (.invokevirtual 492, 21, 0, 0, []) else none) else (bif Nat.beq pc 4 then some (.ifCond .eq 19, 23, 0, 0, []) else bif Nat.beq pc 7 then some (.aload_n 0, 0, 0, 0, []) else none)) else (bif Nat.ble pc 11 then (bif Nat.beq pc 8 then some (.getfield 9, 13, 0, 0, []) else bif Nat.beq pc 11 then some (.iload_n 1, 1, 0, 0, []) else none) else (bif Nat.beq pc 12 then some (.iload_n 2, 2, 0, 0, []) else bif Nat.beq pc 13 then some (.aload_n 0, 0, 0, 0, []) else bif Nat.beq pc 14 then some (.invokevirtual 505, 7, 0, 0, []) else none))) else (bif Nat.ble pc 24 then (bif Nat.ble pc 20 then (bif Nat.beq pc 17 then some (.invokestatic 637, 37, 4, 0, []) else bif Nat.beq pc 20 then some (.goto 16, 36, 0, 0, []) else none) else (bif Nat.beq pc 23 then some (.aload_n 0, 0, 0, 0, []) else bif Nat.beq pc 24 then some (.getfield 9, 13, 0, 0, []) else none)) else (bif Nat.ble pc 28 then (bif Nat.beq pc 27 then some (.iload_n 1, 1, 0, 0, []) else bif Nat.beq pc 28 then some (.iload_n 2, 2, 0, 0, []) else none) else (bif Nat.beq pc 29 then some (.aload_n 0, 0, 0, 0, []) else bif Nat.beq pc 30 then some (.invokevirtual 505, 7, 0, 0, []) else bif Nat.beq pc 36 then some (.ireturn, 0, 0, 0, []) else none)))
def p37 (pc : Nat) : Option PE := bif Nat.ble pc 17 then (bif Nat.ble pc 9 then (bif Nat.ble pc 4 then (bif Nat.beq pc 0 then some (.iload_n 1, 1, 0, 0, []) else bif Nat.beq pc 1 then some (.invokestatic 88, 38, 1, 0, []) else bif Nat.beq pc 4 then some (.ifCond .ne 5, 9, 0, 0, []) else none) else (bif Nat.beq pc 7 then some (.iconst (-1), 0, 0, -1, []) else bif Nat.beq pc 8 then some (.ireturn, 0, 0, 0, []) else bif Nat.beq pc 9 then some (.iload_n 2, 2, 0, 0, []) else none)) else (bif Nat.ble pc 14 then (bif Nat.beq pc 10 then some (.iconst 0, 0, 0, 0, []) else bif Nat.beq pc 11 then some (.invokestatic 92, 39, 2, 0, []) else bif Nat.beq pc 14 then some (.istore_n 2, 2, 0, 0, []) else none) else (bif Nat.beq pc 15 then some (.iload_n 3, 3, 0, 0, []) else bif Nat.beq pc 16 then some (.aload_n 0, 0, 0, 0, []) else bif Nat.beq pc 17 then some (.arraylength, 0, 0, 0, []) else none))) else (bif Nat.ble pc 27 then (bif Nat.ble pc 22 then (bif Nat.beq pc 18 then some (.invokestatic 38, 40, 2, 0, []) else bif Nat.beq pc 21 then some (.istore_n 3, 3, 0, 0, []) else bif Nat.beq pc 22 then some (.iload_n 2, 2, 0, 0, []) else none) else (bif Nat.beq pc 23 then some (.iload_n 3, 3, 0, 0, []) else bif Nat.beq pc 24 then some (.if_icmp .lt 5, 29, 0, 0, []) else bif Nat.beq pc 27 then some (.iconst (-1), 0, 0, -1, []) else none)) else (bif Nat.ble pc 30 then (bif Nat.beq pc 28 then some (.ireturn, 0, 0, 0, []) else bif Nat.beq pc 29 then some (.aload_n 0, 0, 0, 0, []) else bif Nat.beq pc 30 then some (.iload_n 1, 1, 0, 0, []) else none) else (bif Nat.ble pc 32 then (bif Nat.beq pc 31 then some (.iload_n 2, 2, 0, 0, []) else bif Nat.beq pc 32 then some (.iload_n 3, 3, 0, 0, []) else none) else (bif Nat.beq pc 33 then some (.invokestatic 95, 41, 4, 0, []) else bif Nat.beq pc 36 then some (.ireturn, 0, 0, 0, []) else none))))
def p38 (pc : Nat) : Option PE := bif Nat.ble pc 5 then (bif Nat.ble pc 1 then (bif Nat.beq pc 0 then some (.iload_n 0, 0, 0, 0, []) else bif Nat.beq pc 1 then some (.ifCond .lt 14, 15, 0, 0, []) else none) else (bif Nat.beq pc 4 then some (.iload_n 0, 0, 0, 0, []) else bif Nat.beq pc 5 then some (.sipush 255, 0, 0, 255, []) else none)) else (bif Nat.ble pc 11 then (bif Nat.beq pc 8 then some (.if_icmp .gt 7, 15, 0, 0, []) else bif Nat.beq pc 11 then some (.iconst 1, 0, 0, 1, []) else none) else (bif Nat.beq pc 12 then some (.goto 4, 16, 0, 0, []) else bif Nat.beq pc 15 then some (.iconst 0, 0, 0, 0, []) else bif Nat.beq pc 16 then some (.ireturn, 0, 0, 0, []) else none))
def p39 (pc : Nat) : Option PE := bif Nat.ble pc 2 then (bif Nat.beq pc 0 then some (.iload_n 0, 0, 0, 0, []) else bif Nat.beq pc 1 then some (.iload_n 1, 1, 0, 0, []) else bif Nat.beq pc 2 then some (.if_icmp .lt 7, 9, 0, 0, []) else none) else (bif Nat.ble pc 6 then (bif Nat.beq pc 5 then some (.iload_n 0, 0, 0, 0, []) else bif Nat.beq pc 6 then some (.goto 4, 10, 0, 0, []) else none) else (bif Nat.beq pc 9 then some (.iload_n 1, 1, 0, 0, []) else bif Nat.beq pc 10 then some (.ireturn, 0, 0, 0, []) else none))
def p40 (pc : Nat) : Option PE := bif Nat.ble pc 2 then (bif Nat.beq pc 0 then some (.iload_n 0, 0, 0, 0, []) else bif Nat.beq pc 1 then some (.iload_n 1, 1, 0, 0, []) else bif Nat.beq pc 2 then some (.if_icmp .gt 7, 9, 0, 0, []) else none) else (bif Nat.ble pc 6 then (bif Nat.beq pc 5 then some (.iload_n 0, 0, 0, 0, []) else bif Nat.beq pc 6 then some (.goto 4, 10, 0, 0, []) else none) else (bif Nat.beq pc 9 then some (.iload_n 1, 1, 0, 0, []) else bif Nat.beq pc 10 then some (.ireturn, 0, 0, 0, []) else none))
def p41 (pc : Nat) : Option PE := bif Nat.ble pc 13 then (bif Nat.ble pc 4 then (bif Nat.ble pc 1 then (bif Nat.beq pc 0 then some (.iload_n 1, 1, 0, 0, []) else bif Nat.beq pc 1 then some (.i2b, 0, 0, 0, []) else none) else (bif Nat.beq pc 2 then some (.istore 4, 4, 0, 0, []) else bif Nat.beq pc 4 then some (.iload_n 2, 2, 0, 0, []) else none)) else (bif Nat.ble pc 7 then (bif Nat.beq pc 5 then some (.istore 5, 5, 0, 0, []) else bif Nat.beq pc 7 then some (.iload 5, 5, 0, 0, []) else none) else (bif Nat.beq pc 9 then some (.iload_n 3, 3, 0, 0, []) else bif Nat.beq pc 10 then some (.if_icmp .ge 21, 31, 0, 0, []) else bif Nat.beq pc 13 then some (.aload_n 0, 0, 0, 0, []) else none))) else (bif Nat.ble pc 22 then (bif Nat.ble pc 16 then (bif Nat.beq pc 14 then some (.iload 5, 5, 0, 0, []) else bif Nat.beq pc 16 then some (.baload, 0, 0, 0, []) else none) else (bif Nat.beq pc 17 then some (.iload 4, 4, 0, 0, []) else bif Nat.beq pc 19 then some (.if_icmp .ne 6, 25, 0, 0, []) else bif Nat.beq pc 22 then some (.iload 5, 5, 0, 0, []) else none)) else (bif Nat.ble pc 25 then (bif Nat.beq pc 24 then some (.ireturn, 0, 0, 0, []) else bif Nat.beq pc 25 then some (.iinc 5 1, 5, 0, 1, []) else none) else (bif Nat.beq pc 28 then some (.goto (-21), 7, 0, 0, []) else bif Nat.beq pc 31 then some (.iconst (-1), 0, 0, -1, []) else bif Nat.beq pc 32 then some (.ireturn, 0, 0, 0, []) else none)))
def p42 (pc : Nat) : Option PE := bif Nat.ble pc 9 then (bif Nat.ble pc 1 then (bif Nat.beq pc 0 then some (.iload_n 0, 0, 0, 0, []) else bif Nat.beq pc 1 then some (.ifCond .ne 8, 9, 0, 0, []) else none) else (bif Nat.beq pc 4 then some (.ldc 93, 1, 9, 0, []) else bif Nat.beq pc 6 then some (.goto 15, 21, 0, 0, []) else bif Nat.beq pc 9 then some (.iload_n 0, 0, 0, 0, []) else none)) else (bif Nat.ble pc 14 then (bif Nat.beq pc 10 then some (.iconst 1, 0, 0, 1, []) else bif Nat.beq pc 11 then some (.if_icmp .ne 8, 19, 0, 0, []) else bif Nat.beq pc 14 then some (.ldc 95, 1, 11, 0, []) else none) else (bif Nat.beq pc 16 then some (.goto 5, 21, 0, 0, []) else bif Nat.beq pc 19 then some (.ldc 97, 1, 13, 0, []) else bif Nat.beq pc 21 then some (.areturn, 0, 0, 0, []) else none))
def p43 (pc : Nat) : Option PE := bif Nat.ble pc 17 then (bif Nat.ble pc 6 then (bif Nat.ble pc 1 then (bif Nat.beq pc 0 then some (.iload_n 1, 1, 0, 0, []) else bif Nat.beq pc 1 then some (.aload_n 0, 0, 0, 0, []) else none) else (bif Nat.beq pc 2 then some (.arraylength, 0, 0, 0, []) else bif Nat.beq pc 3 then some (.if_icmp .ne 11, 14, 0, 0, []) else bif Nat.beq pc 6 then some (.aload_n 0, 0, 0, 0, []) else none)) else (bif Nat.ble pc 13 then (bif Nat.beq pc 7 then some (.invokevirtual 316, 0, 0, 0, [0]) else bif Nat.beq pc 10 then some (.checkcast 317, 0, 0, 0, []) else bif Nat.beq pc 13 then some (.areturn, 0, 0, 0, []) else none) else (bif Nat.beq pc 14 then some (.iload_n 1, 1, 0, 0, []) else bif Nat.beq pc 15 then some (.newarray .int, 0, 0, 0, []) else bif Nat.beq pc 17 then some (.astore_n 2, 2, 0, 0, []) else none))) else (bif Nat.ble pc 22 then (bif Nat.ble pc 19 then (bif Nat.beq pc 18 then some (.aload_n 0, 0, 0, 0, []) else bif Nat.beq pc 19 then some (.iconst 0, 0, 0, 0, []) else none) else (bif Nat.beq pc 20 then some (.aload_n 2, 2, 0, 0, []) else bif Nat.beq pc 21 then some (.iconst 0, 0, 0, 0, []) else bif Nat.beq pc 22 then some (.aload_n 0, 0, 0, 0, []) else none)) else (bif Nat.ble pc 25 then (bif Nat.beq pc 23 then some (.arraylength, 0, 0, 0, []) else bif Nat.beq pc 24 then some (.iload_n 1, 1, 0, 0, []) else bif Nat.beq pc 25 then some (.invokestatic 304, 40, 2, 0, []) else none) else (bif Nat.beq pc 28 then some (.invokestatic 150, 0, 9, 0, []) else bif Nat.beq pc 31 then some (.aload_n 2, 2, 0, 0, []) else bif Nat.beq pc 32 then some (.areturn, 0, 0, 0, []) else none)))
def p44 (pc : Nat) : Option PE := bif Nat.ble pc 6 then (bif Nat.ble pc 1 then (bif Nat.beq pc 0 then some (.aload_n 0, 0, 0, 0, []) else bif Nat.beq pc 1 then some (.invokespecial 1, 0, 0, 0, []) else none) else (bif Nat.beq pc 4 then some (.aload_n 0, 0, 0, 0, []) else bif Nat.beq pc 5 then some (.aload_n 1, 1, 0, 0, []) else bif Nat.beq pc 6 then some (.putfield 7, 4, 0, 0, []) else none)) else (bif Nat.ble pc 10 then (bif Nat.beq pc 9 then some (.aload_n 0, 0, 0, 0, []) else bif Nat.beq pc 10 then some (.bipush 32, 0, 0, 32, []) else none) else (bif Nat.beq pc 12 then some (.newarray .int, 0, 0, 0, []) else bif Nat.beq pc 14 then some (.putfield 13, 4, 1, 0, []) else bif Nat.beq pc 17 then some (.return_, 0, 0, 0, []) else none))
def p45 (pc : Nat) : Option PE := bif Nat.ble pc 12 then (bif Nat.ble pc 4 then (bif Nat.beq pc 0 then some (.aload_n 0, 0, 0, 0, []) else bif Nat.beq pc 1 then some (.getfield 31, 10, 5, 0, []) else bif Nat.beq pc 4 then some (.aload_n 0, 0, 0, 0, []) else none) else (bif Nat.ble pc 8 then (bif Nat.beq pc 5 then some (.getfield 28, 10, 4, 0, []) else bif Nat.beq pc 8 then some (.if_icmp .ge 11, 19, 0, 0, []) else none) else (bif Nat.beq pc 11 then some (.aload_n 0, 0, 0, 0, []) else bif Nat.beq pc 12 then some (.aload_n 0, 0, 0, 0, []) else none))) else (bif Nat.ble pc 20 then (bif Nat.ble pc 16 then (bif Nat.beq pc 13 then some (.getfield 31, 10, 5, 0, []) else bif Nat.beq pc 16 then some (.invokevirtual 34, 24, 1, 0, []) else none) else (bif Nat.beq pc 19 then some (.aload_n 0, 0, 0, 0, []) else bif Nat.beq pc 20 then some (.iconst 0, 0, 0, 0, []) else none)) else (bif Nat.ble pc 24 then (bif Nat.beq pc 21 then some (.putfield 28, 10, 4, 0, []) else bif Nat.beq pc 24 then some (.aload_n 0, 0, 0, 0, []) else none) else (bif Nat.beq pc 25 then some (.getfield 24, 10, 6, 0, []) else bif Nat.beq pc 28 then some (.ireturn, 0, 0, 0, []) else none)))
def p46 (pc : Nat) : Option PE := bif Nat.ble pc 48 then (bif Nat.ble pc 25 then (bif Nat.ble pc 10 then (bif Nat.ble pc 4 then (bif Nat.beq pc 0 then some (.iload_n 3, 3, 0, 0, []) else bif Nat.beq pc 1 then some (.ifCond .le 16, 17, 0, 0, []) else bif Nat.beq pc 4 then some (.iload_n 3, 3, 0, 0, []) else none) else (bif Nat.ble pc 6 then (bif Nat.beq pc 5 then some (.aload_n 0, 0, 0, 0, []) else bif Nat.beq pc 6 then some (.getfield 42, 9, 5, 0, []) else none) else (bif Nat.beq pc 9 then some (.arraylength, 0, 0, 0, []) else bif Nat.beq pc 10 then some (.if_icmp .ge 7, 17, 0, 0, []) else none))) else (bif Nat.ble pc 17 then (bif Nat.beq pc 13 then some (.iconst 1, 0, 0, 1, []) else bif Nat.beq pc 14 then some (.goto 4, 18, 0, 0, []) else bif Nat.beq pc 17 then some (.iconst 0, 0, 0, 0, []) else none) else (bif Nat.ble pc 20 then (bif Nat.beq pc 18 then some (.istore 5, 5, 0, 0, []) else bif Nat.beq pc 20 then some (.iload 5, 5, 0, 0, []) else none) else (bif Nat.beq pc 22 then some (.ifCond .eq 24, 46, 0, 0, []) else bif Nat.beq pc 25 then some (.aload_n 0, 0, 0, 0, []) else none)))) else (bif Nat.ble pc 36 then (bif Nat.ble pc 30 then (bif Nat.beq pc 26 then some (.getfield 42, 9, 5, 0, []) else bif Nat.beq pc 29 then some (.iload_n 3, 3, 0, 0, []) else bif Nat.beq pc 30 then some (.iaload, 20, 0, 0, []) else none) else (bif Nat.ble pc 34 then (bif Nat.beq pc 31 then some (.ifCond .le 15, 46, 0, 0, []) else bif Nat.beq pc 34 then some (.aload_n 0, 0, 0, 0, []) else none) else (bif Nat.beq pc 35 then some (.iconst 1, 0, 0, 1, []) else bif Nat.beq pc 36 then some (.invokevirtual 120, 47, 1, 0, []) else none))) else (bif Nat.ble pc 44 then (bif Nat.ble pc 40 then (bif Nat.beq pc 39 then some (.aload_n 0, 0, 0, 0, []) else bif Nat.beq pc 40 then some (.getfield 42, 9, 5, 0, []) else none) else (bif Nat.beq pc 43 then some (.iload_n 3, 3, 0, 0, []) else bif Nat.beq pc 44 then some (.iaload, 20, 0, 0, []) else none)) else (bif Nat.ble pc 46 then (bif Nat.beq pc 45 then some (.ireturn, 0, 0, 0, []) else bif Nat.beq pc 46 then some (.iload_n 2, 2, 0, 0, []) else none) else (bif Nat.beq pc 47 then some (.iconst (-1), 0, 0, -1, []) else bif Nat.beq pc 48 then some (.if_icmp .eq 23, 71, 0, 0, []) else none))))) else (bif Nat.ble pc 73 then (bif Nat.ble pc 63 then (bif Nat.ble pc 53 then (bif Nat.beq pc 51 then some (.iload_n 2, 2, 0, 0, []) else bif Nat.beq pc 52 then some (.aload_n 0, 0, 0, 0, []) else bif Nat.beq pc 53 then some (.getfield 12, 9, 0, 0, []) else none) else (bif Nat.ble pc 57 then (bif Nat.beq pc 56 then some (.iload_n 1, 1, 0, 0, []) else bif Nat.beq pc 57 then some (.invokevirtual 124, 48, 1, 0, []) else none) else (bif Nat.beq pc 60 then some (.if_icmp .eq 11, 71, 0, 0, []) else bif Nat.beq pc 63 then some (.aload_n 0, 0, 0, 0, []) else none))) else (bif Nat.ble pc 68 then (bif Nat.beq pc 64 then some (.iconst 2, 0, 0, 2, []) else bif Nat.beq pc 65 then some (.invokevirtual 120, 47, 1, 0, []) else bif Nat.beq pc 68 then some (.bipush (-4), 0, 0, -4, []) else none) else (bif Nat.ble pc 71 then (bif Nat.beq pc 70 then some (.ireturn, 0, 0, 0, []) else bif Nat.beq pc 71 then some (.aload_n 0, 0, 0, 0, []) else none) else (bif Nat.beq pc 72 then some (.iload_n 1, 1, 0, 0, []) else bif Nat.beq pc 73 then some (.aload 4, 4, 0, 0, []) else none)))) else (bif Nat.ble pc 90 then (bif Nat.ble pc 80 then (bif Nat.beq pc 75 then some (.aload 4, 4, 0, 0, []) else bif Nat.beq pc 77 then some (.getfield 128, 2, 1, 0, []) else bif Nat.beq pc 80 then some (.invokevirtual 133, 49, 3, 0, []) else none) else (bif Nat.ble pc 85 then (bif Nat.beq pc 83 then some (.istore 6, 6, 0, 0, []) else bif Nat.beq pc 85 then some (.iload 5, 5, 0, 0, []) else none) else (bif Nat.beq pc 87 then some (.ifCond .eq 16, 103, 0, 0, []) else bif Nat.beq pc 90 then some (.iload 6, 6, 0, 0, []) else none))) else (bif Nat.ble pc 99 then (bif Nat.ble pc 95 then (bif Nat.beq pc 92 then some (.ifCond .le 11, 103, 0, 0, []) else bif Nat.beq pc 95 then some (.aload_n 0, 0, 0, 0, []) else none) else (bif Nat.beq pc 96 then some (.getfield 42, 9, 5, 0, []) else bif Nat.beq pc 99 then some (.iload_n 3, 3, 0, 0, []) else none)) else (bif Nat.ble pc 102 then (bif Nat.beq pc 100 then some (.iload 6, 6, 0, 0, []) else bif Nat.beq pc 102 then some (.iastore, 0, 0, 0, []) else none) else (bif Nat.beq pc 103 then some (.iload 6, 6, 0, 0, []) else bif Nat.beq pc 105 then some (.ireturn, 0, 0, 0, []) else none)))))
def p47 (pc : Nat) : Option PE := bif Nat.ble pc 13 then (bif Nat.ble pc 5 then (bif Nat.ble pc 1 then (bif Nat.beq pc 0 then some (.iload_n 1, 1, 0, 0, []) else bif Nat.beq pc 1 then some (.ifCond .lt 22, 23, 0, 0, []) else none) else (bif Nat.beq pc 4 then some (.iload_n 1, 1, 0, 0, []) else bif Nat.beq pc 5 then some (.aload_n 0, 0, 0, 0, []) else none)) else (bif Nat.ble pc 9 then (bif Nat.beq pc 6 then some (.getfield 73, 9, 11, 0, []) else bif Nat.beq pc 9 then some (.arraylength, 0, 0, 0, []) else none) else (bif Nat.beq pc 10 then some (.if_icmp .ge 13, 23, 0, 0, []) else bif Nat.beq pc 13 then some (.aload_n 0, 0, 0, 0, []) else none))) else (bif Nat.ble pc 19 then (bif Nat.ble pc 17 then (bif Nat.beq pc 14 then some (.getfield 73, 9, 11, 0, []) else bif Nat.beq pc 17 then some (.iload_n 1, 1, 0, 0, []) else none) else (bif Nat.beq pc 18 then some (.dup2, 0, 0, 0, []) else bif Nat.beq pc 19 then some (.iaload, 20, 0, 0, []) else none)) else (bif Nat.ble pc 21 then (bif Nat.beq pc 20 then some (.iconst 1, 0, 0, 1, []) else bif Nat.beq pc 21 then some (.iadd, 0, 0, 0, []) else none) else (bif Nat.beq pc 22 then some (.iastore, 0, 0, 0, []) else bif Nat.beq pc 23 then some (.return_, 0, 0, 0, []) else none)))
def p48 (pc : Nat) : Option PE := bif Nat.ble pc 10 then (bif Nat.ble pc 4 then (bif Nat.beq pc 0 then some (.iload_n 1, 1, 0, 0, []) else bif Nat.beq pc 1 then some (.ifCond .lt 21, 22, 0, 0, []) else bif Nat.beq pc 4 then some (.iload_n 1, 1, 0, 0, []) else none) else (bif Nat.ble pc 6 then (bif Nat.beq pc 5 then some (.aload_n 0, 0, 0, 0, []) else bif Nat.beq pc 6 then some (.getfield 15, 5, 1, 0, []) else none) else (bif Nat.beq pc 9 then some (.arraylength, 0, 0, 0, []) else bif Nat.beq pc 10 then some (.if_icmp .ge 12, 22, 0, 0, []) else none))) else (bif Nat.ble pc 17 then (bif Nat.beq pc 13 then some (.aload_n 0, 0, 0, 0, []) else bif Nat.beq pc 14 then some (.getfield 15, 5, 1, 0, []) else bif Nat.beq pc 17 then some (.iload_n 1, 1, 0, 0, []) else none) else (bif Nat.ble pc 19 then (bif Nat.beq pc 18 then some (.iaload, 20, 0, 0, []) else bif Nat.beq pc 19 then some (.goto 4, 23, 0, 0, []) else none) else (bif Nat.beq pc 22 then some (.iconst 0, 0, 0, 0, []) else bif Nat.beq pc 23 then some (.ireturn, 0, 0, 0, []) else none)))
def p49 (pc : Nat) : Option PE := bif Nat.ble pc 52 then (bif Nat.ble pc 24 then (bif Nat.ble pc 10 then (bif Nat.ble pc 4 then (bif Nat.beq pc 0 then some (.aload_n 0, 0, 0, 0, []) else bif Nat.beq pc 1 then some (.getfield 21, 9, 1, 0, []) else bif Nat.beq pc 4 then some (.iload_n 1, 1, 0, 0, []) else none) else (bif Nat.ble pc 6 then (bif Nat.beq pc 5 then some (.aload_n 2, 2, 0, 0, []) else bif Nat.beq pc 6 then some (.iload_n 3, 3, 0, 0, []) else none) else (bif Nat.beq pc 7 then some (.invokevirtual 137, 50, 3, 0, []) else bif Nat.beq pc 10 then some (.istore 4, 4, 0, 0, []) else none))) else (bif Nat.ble pc 17 then (bif Nat.beq pc 12 then some (.iload 4, 4, 0, 0, []) else bif Nat.beq pc 14 then some (.ifCond .le 12, 26, 0, 0, []) else bif Nat.beq pc 17 then some (.aload_n 0, 0, 0, 0, []) else none) else (bif Nat.ble pc 19 then (bif Nat.beq pc 18 then some (.iconst 3, 0, 0, 3, []) else bif Nat.beq pc 19 then some (.invokevirtual 120, 47, 1, 0, []) else none) else (bif Nat.beq pc 22 then some (.iload 4, 4, 0, 0, []) else bif Nat.beq pc 24 then some (.ineg, 0, 0, 0, []) else none)))) else (bif Nat.ble pc 37 then (bif Nat.ble pc 27 then (bif Nat.beq pc 25 then some (.ireturn, 0, 0, 0, []) else bif Nat.beq pc 26 then some (.aload_n 2, 2, 0, 0, []) else bif Nat.beq pc 27 then some (.invokevirtual 140, 52, 0, 0, []) else none) else (bif Nat.ble pc 31 then (bif Nat.beq pc 30 then some (.aload_n 0, 0, 0, 0, []) else bif Nat.beq pc 31 then some (.getfield 12, 9, 0, 0, []) else none) else (bif Nat.beq pc 34 then some (.invokevirtual 143, 53, 0, 0, []) else bif Nat.beq pc 37 then some (.if_icmp .le 6, 43, 0, 0, []) else none))) else (bif Nat.ble pc 43 then (bif Nat.beq pc 40 then some (.bipush (-3), 0, 0, -3, []) else bif Nat.beq pc 42 then some (.ireturn, 0, 0, 0, []) else bif Nat.beq pc 43 then some (.aload_n 2, 2, 0, 0, []) else none) else (bif Nat.ble pc 47 then (bif Nat.beq pc 44 then some (.getfield 146, 2, 0, 0, []) else bif Nat.beq pc 47 then some (.bipush 6, 0, 0, 6, []) else none) else (bif Nat.beq pc 49 then some (.if_icmp .ne 30, 79, 0, 0, []) else bif Nat.beq pc 52 then some (.aload_n 0, 0, 0, 0, []) else none))))) else (bif Nat.ble pc 76 then (bif Nat.ble pc 64 then (bif Nat.ble pc 56 then (bif Nat.beq pc 53 then some (.iload_n 1, 1, 0, 0, []) else bif Nat.beq pc 54 then some (.bipush 6, 0, 0, 6, []) else bif Nat.beq pc 56 then some (.iload_n 3, 3, 0, 0, []) else none) else (bif Nat.ble pc 58 then (bif Nat.beq pc 57 then some (.aload_n 2, 2, 0, 0, []) else bif Nat.beq pc 58 then some (.getfield 149, 2, 2, 0, []) else none) else (bif Nat.beq pc 61 then some (.invokevirtual 152, 54, 4, 0, []) else bif Nat.beq pc 64 then some (.aload_n 0, 0, 0, 0, []) else none))) else (bif Nat.ble pc 69 then (bif Nat.beq pc 65 then some (.aload_n 2, 2, 0, 0, []) else bif Nat.beq pc 66 then some (.getfield 149, 2, 2, 0, []) else bif Nat.beq pc 69 then some (.bipush 7, 0, 0, 7, []) else none) else (bif Nat.ble pc 72 then (bif Nat.beq pc 71 then some (.iload_n 3, 3, 0, 0, []) else bif Nat.beq pc 72 then some (.iload_n 1, 1, 0, 0, []) else none) else (bif Nat.beq pc 73 then some (.invokevirtual 152, 54, 4, 0, []) else bif Nat.beq pc 76 then some (.goto 14, 90, 0, 0, []) else none)))) else (bif Nat.ble pc 87 then (bif Nat.ble pc 81 then (bif Nat.beq pc 79 then some (.aload_n 0, 0, 0, 0, []) else bif Nat.beq pc 80 then some (.iload_n 1, 1, 0, 0, []) else bif Nat.beq pc 81 then some (.aload_n 2, 2, 0, 0, []) else none) else (bif Nat.ble pc 85 then (bif Nat.beq pc 82 then some (.getfield 146, 2, 0, 0, []) else bif Nat.beq pc 85 then some (.iload_n 3, 3, 0, 0, []) else none) else (bif Nat.beq pc 86 then some (.iconst 0, 0, 0, 0, []) else bif Nat.beq pc 87 then some (.invokevirtual 152, 54, 4, 0, []) else none))) else (bif Nat.ble pc 95 then (bif Nat.ble pc 91 then (bif Nat.beq pc 90 then some (.aload_n 0, 0, 0, 0, []) else bif Nat.beq pc 91 then some (.iconst 0, 0, 0, 0, []) else none) else (bif Nat.beq pc 92 then some (.invokevirtual 120, 47, 1, 0, []) else bif Nat.beq pc 95 then some (.aload_n 0, 0, 0, 0, []) else none)) else (bif Nat.ble pc 99 then (bif Nat.beq pc 96 then some (.getfield 12, 9, 0, 0, []) else bif Nat.beq pc 99 then some (.iload_n 1, 1, 0, 0, []) else none) else (bif Nat.beq pc 100 then some (.invokevirtual 124, 48, 1, 0, []) else bif Nat.beq pc 103 then some (.ireturn, 0, 0, 0, []) else none)))))
def p50 (pc : Nat) : Option PE := bif Nat.ble pc 115 then (bif Nat.ble pc 36 then (bif Nat.ble pc 17 then (bif Nat.ble pc 6 then (bif Nat.ble pc 1 then (bif Nat.beq pc 0 then some (.aload_n 0, 0, 0, 0, []) else bif Nat.beq pc 1 then some (.iload_n 1, 1, 0, 0, []) else none) else (bif Nat.beq pc 2 then some (.iconst 0, 0, 0, 0, []) else bif Nat.beq pc 3 then some (.invokevirtual 27, 51, 2, 0, []) else bif Nat.beq pc 6 then some (.istore 4, 4, 0, 0, []) else none)) else (bif Nat.ble pc 9 then (bif Nat.beq pc 8 then some (.aload_n 2, 2, 0, 0, []) else bif Nat.beq pc 9 then some (.getfield 38, 2, 0, 0, []) else none) else (bif Nat.beq pc 12 then some (.ifCond .ne 15, 27, 0, 0, []) else bif Nat.beq pc 15 then some (.iload 4, 4, 0, 0, []) else bif Nat.beq pc 17 then some (.ifCond .ne 7, 24, 0, 0, []) else none))) else (bif Nat.ble pc 27 then (bif Nat.ble pc 21 then (bif Nat.beq pc 20 then some (.iconst 0, 0, 0, 0, []) else bif Nat.beq pc 21 then some (.goto 5, 26, 0, 0, []) else none) else (bif Nat.beq pc 24 then some (.bipush 22, 0, 0, 22, []) else bif Nat.beq pc 26 then some (.ireturn, 0, 0, 0, []) else bif Nat.beq pc 27 then some (.iload 4, 4, 0, 0, []) else none)) else (bif Nat.ble pc 30 then (bif Nat.beq pc 29 then some (.iconst 1, 0, 0, 1, []) else bif Nat.beq pc 30 then some (.if_icmp .eq 6, 36, 0, 0, []) else none) else (bif Nat.beq pc 33 then some (.bipush 21, 0, 0, 21, []) else bif Nat.beq pc 35 then some (.ireturn, 0, 0, 0, []) else bif Nat.beq pc 36 then some (.iload_n 3, 3, 0, 0, []) else none)))) else (bif Nat.ble pc 50 then (bif Nat.ble pc 43 then (bif Nat.ble pc 38 then (bif Nat.beq pc 37 then some (.aload_n 0, 0, 0, 0, []) else bif Nat.beq pc 38 then some (.iload_n 1, 1, 0, 0, []) else none) else (bif Nat.beq pc 39 then some (.iconst 1, 0, 0, 1, []) else bif Nat.beq pc 40 then some (.invokevirtual 27, 51, 2, 0, []) else bif Nat.beq pc 43 then some (.aload_n 0, 0, 0, 0, []) else none)) else (bif Nat.ble pc 45 then (bif Nat.beq pc 44 then some (.iload_n 1, 1, 0, 0, []) else bif Nat.beq pc 45 then some (.iconst 2, 0, 0, 2, []) else none) else (bif Nat.beq pc 46 then some (.invokevirtual 27, 51, 2, 0, []) else bif Nat.beq pc 49 then some (.isub, 0, 0, 0, []) else bif Nat.beq pc 50 then some (.if_icmp .le 7, 57, 0, 0, []) else none))) else (bif Nat.ble pc 60 then (bif Nat.ble pc 54 then (bif Nat.beq pc 53 then some (.iconst 1, 0, 0, 1, []) else bif Nat.beq pc 54 then some (.goto 4, 58, 0, 0, []) else none) else (bif Nat.beq pc 57 then some (.iconst 0, 0, 0, 0, []) else bif Nat.beq pc 58 then some (.istore 5, 5, 0, 0, []) else bif Nat.beq pc 60 then some (.aload_n 2, 2, 0, 0, []) else none)) else (bif Nat.ble pc 108 then (bif Nat.beq pc 61 then some (.getfield 38, 2, 0, 0, []) else bif Nat.beq pc 64 then some (.tableswitch 125 2 8 #[44, 44, 56, 125, 73, 125, 109], 189, 0, 2, [108, 108, 120, 189, 137, 189, 173]) else bif Nat.beq pc 108 then some (.iload 5, 5, 0, 0, []) else none) else (bif Nat.beq pc 110 then some (.ifCond .eq 8, 118, 0, 0, []) else bif Nat.beq pc 113 then some (.bipush 23, 0, 0, 23, []) else bif Nat.beq pc 115 then some (.goto 4, 119, 0, 0, []) else none))))) else (bif Nat.ble pc 151 then (bif Nat.ble pc 132 then (bif Nat.ble pc 122 then (bif Nat.ble pc 119 then (bif Nat.beq pc 118 then some (.iconst 0, 0, 0, 0, []) else bif Nat.beq pc 119 then some (.ireturn, 0, 0, 0, []) else none) else (bif Nat.beq pc 120 then some (.iload_n 3, 3, 0, 0, []) else bif Nat.beq pc 121 then some (.aload_n 0, 0, 0, 0, []) else bif Nat.beq pc 122 then some (.iload_n 1, 1, 0, 0, []) else none)) else (bif Nat.ble pc 124 then (bif Nat.beq pc 123 then some (.iconst 2, 0, 0, 2, []) else bif Nat.beq pc 124 then some (.invokevirtual 27, 51, 2, 0, []) else none) else (bif Nat.beq pc 127 then some (.if_icmp .le 8, 135, 0, 0, []) else bif Nat.beq pc 130 then some (.bipush 23, 0, 0, 23, []) else bif Nat.beq pc 132 then some (.goto 4, 136, 0, 0, []) else none))) else (bif Nat.ble pc 141 then (bif Nat.ble pc 136 then (bif Nat.beq pc 135 then some (.iconst 0, 0, 0, 0, []) else bif Nat.beq pc 136 then some (.ireturn, 0, 0, 0, []) else none) else (bif Nat.beq pc 137 then some (.aload_n 2, 2, 0, 0, []) else bif Nat.beq pc 138 then some (.getfield 44, 2, 2, 0, []) else bif Nat.beq pc 141 then some (.iload_n 1, 1, 0, 0, []) else none)) else (bif Nat.ble pc 146 then (bif Nat.beq pc 142 then some (.if_icmp .eq 16, 158, 0, 0, []) else bif Nat.beq pc 145 then some (.aload_n 0, 0, 0, 0, []) else bif Nat.beq pc 146 then some (.aload_n 2, 2, 0, 0, []) else none) else (bif Nat.beq pc 147 then some (.getfield 44, 2, 2, 0, []) else bif Nat.beq pc 150 then some (.iconst 0, 0, 0, 0, []) else bif Nat.beq pc 151 then some (.invokevirtual 27, 51, 2, 0, []) else none)))) else (bif Nat.ble pc 172 then (bif Nat.ble pc 161 then (bif Nat.ble pc 155 then (bif Nat.beq pc 154 then some (.iconst 1, 0, 0, 1, []) else bif Nat.beq pc 155 then some (.if_icmp .eq 6, 161, 0, 0, []) else none) else (bif Nat.beq pc 158 then some (.bipush 25, 0, 0, 25, []) else bif Nat.beq pc 160 then some (.ireturn, 0, 0, 0, []) else bif Nat.beq pc 161 then some (.iload 5, 5, 0, 0, []) else none)) else (bif Nat.ble pc 166 then (bif Nat.beq pc 163 then some (.ifCond .eq 8, 171, 0, 0, []) else bif Nat.beq pc 166 then some (.bipush 23, 0, 0, 23, []) else none) else (bif Nat.beq pc 168 then some (.goto 4, 172, 0, 0, []) else bif Nat.beq pc 171 then some (.iconst 0, 0, 0, 0, []) else bif Nat.beq pc 172 then some (.ireturn, 0, 0, 0, []) else none))) else (bif Nat.ble pc 179 then (bif Nat.ble pc 174 then (bif Nat.beq pc 173 then some (.aload_n 0, 0, 0, 0, []) else bif Nat.beq pc 174 then some (.iload_n 1, 1, 0, 0, []) else none) else (bif Nat.beq pc 175 then some (.iconst 1, 0, 0, 1, []) else bif Nat.beq pc 176 then some (.invokevirtual 27, 51, 2, 0, []) else bif Nat.beq pc 179 then some (.ifCond .ne 7, 186, 0, 0, []) else none)) else (bif Nat.ble pc 186 then (bif Nat.beq pc 182 then some (.iconst 0, 0, 0, 0, []) else bif Nat.beq pc 183 then some (.goto 5, 188, 0, 0, []) else bif Nat.beq pc 186 then some (.bipush 24, 0, 0, 24, []) else none) else (bif Nat.beq pc 188 then some (.ireturn, 0, 0, 0, []) else bif Nat.beq pc 189 then some (.iconst 0, 0, 0, 0, []) else bif Nat.beq pc 190 then some (.ireturn, 0, 0, 0, []) else none)))))
def p51 (pc : Nat) : Option PE := bif Nat.ble pc 11 then (bif Nat.ble pc 4 then (bif Nat.ble pc 1 then (bif Nat.beq pc 0 then some (.iload_n 1, 1, 0, 0, []) else bif Nat.beq pc 1 then some (.iconst 4, 0, 0, 4, []) else none) else (bif Nat.beq pc 2 then some (.imul, 0, 0, 0, []) else bif Nat.beq pc 3 then some (.iload_n 2, 2, 0, 0, []) else bif Nat.beq pc 4 then some (.iadd, 0, 0, 0, []) else none)) else (bif Nat.ble pc 6 then (bif Nat.beq pc 5 then some (.istore_n 3, 3, 0, 0, []) else bif Nat.beq pc 6 then some (.iload_n 3, 3, 0, 0, []) else none) else (bif Nat.beq pc 7 then some (.ifCond .lt 21, 28, 0, 0, []) else bif Nat.beq pc 10 then some (.iload_n 3, 3, 0, 0, []) else bif Nat.beq pc 11 then some (.aload_n 0, 0, 0, 0, []) else none))) else (bif Nat.ble pc 20 then (bif Nat.ble pc 15 then (bif Nat.beq pc 12 then some (.getfield 9, 1, 0, 0, []) else bif Nat.beq pc 15 then some (.arraylength, 0, 0, 0, []) else none) else (bif Nat.beq pc 16 then some (.if_icmp .ge 12, 28, 0, 0, []) else bif Nat.beq pc 19 then some (.aload_n 0, 0, 0, 0, []) else bif Nat.beq pc 20 then some (.getfield 9, 1, 0, 0, []) else none)) else (bif Nat.ble pc 24 then (bif Nat.beq pc 23 then some (.iload_n 3, 3, 0, 0, []) else bif Nat.beq pc 24 then some (.iaload, 20, 0, 0, []) else none) else (bif Nat.beq pc 25 then some (.goto 4, 29, 0, 0, []) else bif Nat.beq pc 28 then some (.iconst 0, 0, 0, 0, []) else bif Nat.beq pc 29 then some (.ireturn, 0, 0, 0, []) else none)))
def p52 (pc : Nat) : Option PE := bif Nat.ble pc 6 then (bif Nat.ble pc 1 then (bif Nat.beq pc 0 then some (.aload_n 0, 0, 0, 0, []) else bif Nat.beq pc 1 then some (.getfield 9, 2, 0, 0, []) else none) else (bif Nat.beq pc 4 then some (.bipush 6, 0, 0, 6, []) else bif Nat.beq pc 6 then some (.if_icmp .ne 7, 13, 0, 0, []) else none)) else (bif Nat.ble pc 10 then (bif Nat.beq pc 9 then some (.iconst 2, 0, 0, 2, []) else bif Nat.beq pc 10 then some (.goto 4, 14, 0, 0, []) else none) else (bif Nat.beq pc 13 then some (.iconst 1, 0, 0, 1, []) else bif Nat.beq pc 14 then some (.ireturn, 0, 0, 0, []) else none))
def p53 (pc : Nat) : Option PE := bif Nat.ble pc 3 then (bif Nat.beq pc 0 then some (.sipush 240, 0, 0, 240, []) else bif Nat.beq pc 3 then some (.aload_n 0, 0, 0, 0, []) else none) else (bif Nat.beq pc 4 then some (.getfield 27, 5, 4, 0, []) else bif Nat.beq pc 7 then some (.isub, 0, 0, 0, []) else bif Nat.beq pc 8 then some (.ireturn, 0, 0, 0, []) else none)
def p54 (pc : Nat) : Option PE := bif Nat.ble pc 31 then (bif Nat.ble pc 14 then (bif Nat.ble pc 5 then (bif Nat.ble pc 1 then (bif Nat.beq pc 0 then some (.aload_n 0, 0, 0, 0, []) else bif Nat.beq pc 1 then some (.getfield 12, 9, 0, 0, []) else none) else (bif Nat.beq pc 4 then some (.iload_n 1, 1, 0, 0, []) else bif Nat.beq pc 5 then some (.iload_n 2, 2, 0, 0, []) else none)) else (bif Nat.ble pc 7 then (bif Nat.beq pc 6 then some (.aload_n 0, 0, 0, 0, []) else bif Nat.beq pc 7 then some (.getfield 31, 9, 3, 0, []) else none) else (bif Nat.beq pc 10 then some (.iload_n 2, 2, 0, 0, []) else bif Nat.beq pc 11 then some (.invokevirtual 156, 55, 1, 0, []) else bif Nat.beq pc 14 then some (.iload_n 3, 3, 0, 0, []) else none))) else (bif Nat.ble pc 24 then (bif Nat.ble pc 17 then (bif Nat.beq pc 15 then some (.iload 4, 4, 0, 0, []) else bif Nat.beq pc 17 then some (.invokevirtual 159, 56, 5, 0, []) else none) else (bif Nat.beq pc 20 then some (.aload_n 0, 0, 0, 0, []) else bif Nat.beq pc 21 then some (.getfield 21, 9, 1, 0, []) else bif Nat.beq pc 24 then some (.iload_n 1, 1, 0, 0, []) else none)) else (bif Nat.ble pc 26 then (bif Nat.beq pc 25 then some (.iload_n 2, 2, 0, 0, []) else bif Nat.beq pc 26 then some (.iload_n 3, 3, 0, 0, []) else none) else (bif Nat.beq pc 27 then some (.invokevirtual 163, 58, 3, 0, []) else bif Nat.beq pc 30 then some (.aload_n 0, 0, 0, 0, []) else bif Nat.beq pc 31 then some (.getfield 12, 9, 0, 0, []) else none)))) else (bif Nat.ble pc 53 then (bif Nat.ble pc 41 then (bif Nat.ble pc 35 then (bif Nat.beq pc 34 then some (.iload_n 1, 1, 0, 0, []) else bif Nat.beq pc 35 then some (.invokevirtual 124, 48, 1, 0, []) else none) else (bif Nat.beq pc 38 then some (.istore 5, 5, 0, 0, []) else bif Nat.beq pc 40 then some (.aload_n 0, 0, 0, 0, []) else bif Nat.beq pc 41 then some (.getfield 113, 9, 13, 0, []) else none)) else (bif Nat.ble pc 47 then (bif Nat.beq pc 44 then some (.ifCond .le 30, 74, 0, 0, []) else bif Nat.beq pc 47 then some (.iload 5, 5, 0, 0, []) else none) else (bif Nat.beq pc 49 then some (.aload_n 0, 0, 0, 0, []) else bif Nat.beq pc 50 then some (.getfield 113, 9, 13, 0, []) else bif Nat.beq pc 53 then some (.irem, 0, 0, 0, []) else none))) else (bif Nat.ble pc 62 then (bif Nat.ble pc 57 then (bif Nat.beq pc 54 then some (.ifCond .ne 20, 74, 0, 0, []) else bif Nat.beq pc 57 then some (.aload_n 0, 0, 0, 0, []) else none) else (bif Nat.beq pc 58 then some (.getfield 38, 9, 4, 0, []) else bif Nat.beq pc 61 then some (.iload_n 1, 1, 0, 0, []) else bif Nat.beq pc 62 then some (.iload 5, 5, 0, 0, []) else none)) else (bif Nat.ble pc 65 then (bif Nat.beq pc 64 then some (.aload_n 0, 0, 0, 0, []) else bif Nat.beq pc 65 then some (.getfield 31, 9, 3, 0, []) else none) else (bif Nat.beq pc 68 then some (.getfield 167, 3, 4, 0, []) else bif Nat.beq pc 71 then some (.invokevirtual 170, 61, 3, 0, []) else bif Nat.beq pc 74 then some (.return_, 0, 0, 0, []) else none))))
def p55 (pc : Nat) : Option PE := bif Nat.ble pc 13 then (bif Nat.ble pc 5 then (bif Nat.ble pc 1 then (bif Nat.beq pc 0 then some (.iload_n 1, 1, 0, 0, []) else bif Nat.beq pc 1 then some (.ifCond .lt 23, 24, 0, 0, []) else none) else (bif Nat.beq pc 4 then some (.iload_n 1, 1, 0, 0, []) else bif Nat.beq pc 5 then some (.aload_n 0, 0, 0, 0, []) else none)) else (bif Nat.ble pc 9 then (bif Nat.beq pc 6 then some (.getfield 9, 3, 0, 0, []) else bif Nat.beq pc 9 then some (.arraylength, 0, 0, 0, []) else none) else (bif Nat.beq pc 10 then some (.if_icmp .ge 14, 24, 0, 0, []) else bif Nat.beq pc 13 then some (.aload_n 0, 0, 0, 0, []) else none))) else (bif Nat.ble pc 19 then (bif Nat.ble pc 17 then (bif Nat.beq pc 14 then some (.getfield 9, 3, 0, 0, []) else bif Nat.beq pc 17 then some (.iload_n 1, 1, 0, 0, []) else none) else (bif Nat.beq pc 18 then some (.iaload, 20, 0, 0, []) else bif Nat.beq pc 19 then some (.iconst 1, 0, 0, 1, []) else none)) else (bif Nat.ble pc 21 then (bif Nat.beq pc 20 then some (.iadd, 0, 0, 0, []) else bif Nat.beq pc 21 then some (.goto 4, 25, 0, 0, []) else none) else (bif Nat.beq pc 24 then some (.iconst 1, 0, 0, 1, []) else bif Nat.beq pc 25 then some (.ireturn, 0, 0, 0, []) else none)))
def p56 (pc : Nat) : Option PE := bif Nat.ble pc 42 then (bif Nat.ble pc 22 then (bif Nat.ble pc 9 then (bif Nat.ble pc 4 then (bif Nat.beq pc 0 then some (.aload_n 0, 0, 0, 0, []) else bif Nat.beq pc 1 then some (.invokevirtual 39, 53, 0, 0, []) else bif Nat.beq pc 4 then some (.iconst 1, 0, 0, 1, []) else none) else (bif Nat.beq pc 5 then some (.if_icmp .lt 16, 21, 0, 0, []) else bif Nat.beq pc 8 then some (.iload_n 1, 1, 0, 0, []) else bif Nat.beq pc 9 then some (.ifCond .lt 12, 21, 0, 0, []) else none)) else (bif Nat.ble pc 14 then (bif Nat.beq pc 12 then some (.iload_n 1, 1, 0, 0, []) else bif Nat.beq pc 13 then some (.aload_n 0, 0, 0, 0, []) else bif Nat.beq pc 14 then some (.getfield 15, 5, 1, 0, []) else none) else (bif Nat.ble pc 18 then (bif Nat.beq pc 17 then some (.arraylength, 0, 0, 0, []) else bif Nat.beq pc 18 then some (.if_icmp .lt 4, 22, 0, 0, []) else none) else (bif Nat.beq pc 21 then some (.return_, 0, 0, 0, []) else bif Nat.beq pc 22 then some (.aload_n 0, 0, 0, 0, []) else none)))) else (bif Nat.ble pc 33 then (bif Nat.ble pc 27 then (bif Nat.beq pc 23 then some (.dup, 0, 0, 0, []) else bif Nat.beq pc 24 then some (.getfield 27, 5, 4, 0, []) else bif Nat.beq pc 27 then some (.iconst 1, 0, 0, 1, []) else none) else (bif Nat.ble pc 29 then (bif Nat.beq pc 28 then some (.iadd, 0, 0, 0, []) else bif Nat.beq pc 29 then some (.putfield 27, 5, 4, 0, []) else none) else (bif Nat.beq pc 32 then some (.aload_n 0, 0, 0, 0, []) else bif Nat.beq pc 33 then some (.getfield 15, 5, 1, 0, []) else none))) else (bif Nat.ble pc 38 then (bif Nat.beq pc 36 then some (.iload_n 1, 1, 0, 0, []) else bif Nat.beq pc 37 then some (.dup2, 0, 0, 0, []) else bif Nat.beq pc 38 then some (.iaload, 20, 0, 0, []) else none) else (bif Nat.ble pc 40 then (bif Nat.beq pc 39 then some (.iconst 1, 0, 0, 1, []) else bif Nat.beq pc 40 then some (.iadd, 0, 0, 0, []) else none) else (bif Nat.beq pc 41 then some (.iastore, 0, 0, 0, []) else bif Nat.beq pc 42 then some (.aload_n 0, 0, 0, 0, []) else none))))) else (bif Nat.ble pc 61 then (bif Nat.ble pc 50 then (bif Nat.ble pc 45 then (bif Nat.beq pc 43 then some (.iconst 0, 0, 0, 0, []) else bif Nat.beq pc 44 then some (.iload_n 1, 1, 0, 0, []) else bif Nat.beq pc 45 then some (.invokevirtual 43, 57, 2, 0, []) else none) else (bif Nat.beq pc 48 then some (.aload_n 0, 0, 0, 0, []) else bif Nat.beq pc 49 then some (.iconst 1, 0, 0, 1, []) else bif Nat.beq pc 50 then some (.aload_n 0, 0, 0, 0, []) else none)) else (bif Nat.ble pc 55 then (bif Nat.beq pc 51 then some (.getfield 15, 5, 1, 0, []) else bif Nat.beq pc 54 then some (.iload_n 1, 1, 0, 0, []) else bif Nat.beq pc 55 then some (.iaload, 20, 0, 0, []) else none) else (bif Nat.ble pc 59 then (bif Nat.beq pc 56 then some (.invokevirtual 43, 57, 2, 0, []) else bif Nat.beq pc 59 then some (.aload_n 0, 0, 0, 0, []) else none) else (bif Nat.beq pc 60 then some (.iconst 2, 0, 0, 2, []) else bif Nat.beq pc 61 then some (.iload_n 2, 2, 0, 0, []) else none)))) else (bif Nat.ble pc 72 then (bif Nat.ble pc 66 then (bif Nat.beq pc 62 then some (.invokevirtual 43, 57, 2, 0, []) else bif Nat.beq pc 65 then some (.aload_n 0, 0, 0, 0, []) else bif Nat.beq pc 66 then some (.iconst 3, 0, 0, 3, []) else none) else (bif Nat.ble pc 68 then (bif Nat.beq pc 67 then some (.iload_n 3, 3, 0, 0, []) else bif Nat.beq pc 68 then some (.invokevirtual 43, 57, 2, 0, []) else none) else (bif Nat.beq pc 71 then some (.aload_n 0, 0, 0, 0, []) else bif Nat.beq pc 72 then some (.iconst 4, 0, 0, 4, []) else none))) else (bif Nat.ble pc 78 then (bif Nat.beq pc 73 then some (.iload 4, 4, 0, 0, []) else bif Nat.beq pc 75 then some (.invokevirtual 43, 57, 2, 0, []) else bif Nat.beq pc 78 then some (.aload_n 0, 0, 0, 0, []) else none) else (bif Nat.ble pc 80 then (bif Nat.beq pc 79 then some (.iconst 5, 0, 0, 5, []) else bif Nat.beq pc 80 then some (.iload 5, 5, 0, 0, []) else none) else (bif Nat.beq pc 82 then some (.invokevirtual 43, 57, 2, 0, []) else bif Nat.beq pc 85 then some (.return_, 0, 0, 0, []) else none)))))
def p57 (pc : Nat) : Option PE := bif Nat.ble pc 14 then (bif Nat.ble pc 7 then (bif Nat.ble pc 1 then (bif Nat.beq pc 0 then some (.aload_n 0, 0, 0, 0, []) else bif Nat.beq pc 1 then some (.getfield 27, 5, 4, 0, []) else none) else (bif Nat.beq pc 4 then some (.bipush 6, 0, 0, 6, []) else bif Nat.beq pc 6 then some (.imul, 0, 0, 0, []) else bif Nat.beq pc 7 then some (.iload_n 1, 1, 0, 0, []) else none)) else (bif Nat.ble pc 9 then (bif Nat.beq pc 8 then some (.iadd, 0, 0, 0, []) else bif Nat.beq pc 9 then some (.istore_n 3, 3, 0, 0, []) else none) else (bif Nat.beq pc 10 then some (.iload_n 3, 3, 0, 0, []) else bif Nat.beq pc 11 then some (.ifCond .lt 19, 30, 0, 0, []) else bif Nat.beq pc 14 then some (.iload_n 3, 3, 0, 0, []) else none))) else (bif Nat.ble pc 23 then (bif Nat.ble pc 16 then (bif Nat.beq pc 15 then some (.aload_n 0, 0, 0, 0, []) else bif Nat.beq pc 16 then some (.getfield 9, 5, 0, 0, []) else none) else (bif Nat.beq pc 19 then some (.arraylength, 0, 0, 0, []) else bif Nat.beq pc 20 then some (.if_icmp .ge 10, 30, 0, 0, []) else bif Nat.beq pc 23 then some (.aload_n 0, 0, 0, 0, []) else none)) else (bif Nat.ble pc 27 then (bif Nat.beq pc 24 then some (.getfield 9, 5, 0, 0, []) else bif Nat.beq pc 27 then some (.iload_n 3, 3, 0, 0, []) else none) else (bif Nat.beq pc 28 then some (.iload_n 2, 2, 0, 0, []) else bif Nat.beq pc 29 then some (.iastore, 0, 0, 0, []) else bif Nat.beq pc 30 then some (.return_, 0, 0, 0, []) else none)))
def p58 (pc : Nat) : Option PE := bif Nat.ble pc 87 then (bif Nat.ble pc 66 then (bif Nat.ble pc 55 then (bif Nat.ble pc 52 then (bif Nat.beq pc 0 then some (.iload_n 2, 2, 0, 0, []) else bif Nat.beq pc 1 then some (.tableswitch 130 0 8 #[51, 68, 78, 89, 99, 110, 78, 68, 120], 131, 0, 0, [52, 69, 79, 90, 100, 111, 79, 69, 121]) else bif Nat.beq pc 52 then some (.aload_n 0, 0, 0, 0, []) else none) else (bif Nat.beq pc 53 then some (.iload_n 1, 1, 0, 0, []) else bif Nat.beq pc 54 then some (.iconst 0, 0, 0, 0, []) else bif Nat.beq pc 55 then some (.iconst 1, 0, 0, 1, []) else none)) else (bif Nat.ble pc 60 then (bif Nat.beq pc 56 then some (.invokevirtual 31, 59, 3, 0, []) else bif Nat.beq pc 59 then some (.aload_n 0, 0, 0, 0, []) else bif Nat.beq pc 60 then some (.iload_n 1, 1, 0, 0, []) else none) else (bif Nat.ble pc 62 then (bif Nat.beq pc 61 then some (.iconst 3, 0, 0, 3, []) else bif Nat.beq pc 62 then some (.iload_n 3, 3, 0, 0, []) else none) else (bif Nat.beq pc 63 then some (.invokevirtual 31, 59, 3, 0, []) else bif Nat.beq pc 66 then some (.goto 65, 131, 0, 0, []) else none)))) else (bif Nat.ble pc 76 then (bif Nat.ble pc 71 then (bif Nat.beq pc 69 then some (.aload_n 0, 0, 0, 0, []) else bif Nat.beq pc 70 then some (.iload_n 1, 1, 0, 0, []) else bif Nat.beq pc 71 then some (.iconst 1, 0, 0, 1, []) else none) else (bif Nat.beq pc 72 then some (.iload_n 3, 3, 0, 0, []) else bif Nat.beq pc 73 then some (.invokevirtual 35, 60, 3, 0, []) else bif Nat.beq pc 76 then some (.goto 55, 131, 0, 0, []) else none)) else (bif Nat.ble pc 81 then (bif Nat.beq pc 79 then some (.aload_n 0, 0, 0, 0, []) else bif Nat.beq pc 80 then some (.iload_n 1, 1, 0, 0, []) else bif Nat.beq pc 81 then some (.iconst 1, 0, 0, 1, []) else none) else (bif Nat.ble pc 83 then (bif Nat.beq pc 82 then some (.iload_n 3, 3, 0, 0, []) else bif Nat.beq pc 83 then some (.ineg, 0, 0, 0, []) else none) else (bif Nat.beq pc 84 then some (.invokevirtual 35, 60, 3, 0, []) else bif Nat.beq pc 87 then some (.goto 44, 131, 0, 0, []) else none))))) else (bif Nat.ble pc 108 then (bif Nat.ble pc 97 then (bif Nat.ble pc 92 then (bif Nat.beq pc 90 then some (.aload_n 0, 0, 0, 0, []) else bif Nat.beq pc 91 then some (.iload_n 1, 1, 0, 0, []) else bif Nat.beq pc 92 then some (.iconst 2, 0, 0, 2, []) else none) else (bif Nat.beq pc 93 then some (.iload_n 3, 3, 0, 0, []) else bif Nat.beq pc 94 then some (.invokevirtual 35, 60, 3, 0, []) else bif Nat.beq pc 97 then some (.goto 34, 131, 0, 0, []) else none)) else (bif Nat.ble pc 102 then (bif Nat.beq pc 100 then some (.aload_n 0, 0, 0, 0, []) else bif Nat.beq pc 101 then some (.iload_n 1, 1, 0, 0, []) else bif Nat.beq pc 102 then some (.iconst 2, 0, 0, 2, []) else none) else (bif Nat.ble pc 104 then (bif Nat.beq pc 103 then some (.iload_n 3, 3, 0, 0, []) else bif Nat.beq pc 104 then some (.ineg, 0, 0, 0, []) else none) else (bif Nat.beq pc 105 then some (.invokevirtual 35, 60, 3, 0, []) else bif Nat.beq pc 108 then some (.goto 23, 131, 0, 0, []) else none)))) else (bif Nat.ble pc 118 then (bif Nat.ble pc 113 then (bif Nat.beq pc 111 then some (.aload_n 0, 0, 0, 0, []) else bif Nat.beq pc 112 then some (.iload_n 1, 1, 0, 0, []) else bif Nat.beq pc 113 then some (.iconst 3, 0, 0, 3, []) else none) else (bif Nat.beq pc 114 then some (.iload_n 3, 3, 0, 0, []) else bif Nat.beq pc 115 then some (.invokevirtual 31, 59, 3, 0, []) else bif Nat.beq pc 118 then some (.goto 13, 131, 0, 0, []) else none)) else (bif Nat.ble pc 123 then (bif Nat.beq pc 121 then some (.aload_n 0, 0, 0, 0, []) else bif Nat.beq pc 122 then some (.iload_n 1, 1, 0, 0, []) else bif Nat.beq pc 123 then some (.iconst 0, 0, 0, 0, []) else none) else (bif Nat.ble pc 125 then (bif Nat.beq pc 124 then some (.iconst 2, 0, 0, 2, []) else bif Nat.beq pc 125 then some (.invokevirtual 31, 59, 3, 0, []) else none) else (bif Nat.beq pc 128 then some (.goto 3, 131, 0, 0, []) else bif Nat.beq pc 131 then some (.return_, 0, 0, 0, []) else none)))))
def p59 (pc : Nat) : Option PE := bif Nat.ble pc 12 then (bif Nat.ble pc 3 then (bif Nat.ble pc 1 then (bif Nat.beq pc 0 then some (.iload_n 1, 1, 0, 0, []) else bif Nat.beq pc 1 then some (.iconst 4, 0, 0, 4, []) else none) else (bif Nat.beq pc 2 then some (.imul, 0, 0, 0, []) else bif Nat.beq pc 3 then some (.iload_n 2, 2, 0, 0, []) else none)) else (bif Nat.ble pc 5 then (bif Nat.beq pc 4 then some (.iadd, 0, 0, 0, []) else bif Nat.beq pc 5 then some (.istore 4, 4, 0, 0, []) else none) else (bif Nat.beq pc 7 then some (.iload 4, 4, 0, 0, []) else bif Nat.beq pc 9 then some (.ifCond .lt 21, 30, 0, 0, []) else bif Nat.beq pc 12 then some (.iload 4, 4, 0, 0, []) else none))) else (bif Nat.ble pc 22 then (bif Nat.ble pc 15 then (bif Nat.beq pc 14 then some (.aload_n 0, 0, 0, 0, []) else bif Nat.beq pc 15 then some (.getfield 9, 1, 0, 0, []) else none) else (bif Nat.beq pc 18 then some (.arraylength, 0, 0, 0, []) else bif Nat.beq pc 19 then some (.if_icmp .ge 11, 30, 0, 0, []) else bif Nat.beq pc 22 then some (.aload_n 0, 0, 0, 0, []) else none)) else (bif Nat.ble pc 26 then (bif Nat.beq pc 23 then some (.getfield 9, 1, 0, 0, []) else bif Nat.beq pc 26 then some (.iload 4, 4, 0, 0, []) else none) else (bif Nat.beq pc 28 then some (.iload_n 3, 3, 0, 0, []) else bif Nat.beq pc 29 then some (.iastore, 0, 0, 0, []) else bif Nat.beq pc 30 then some (.return_, 0, 0, 0, []) else none)))
def p60 (pc : Nat) : Option PE := bif Nat.ble pc 4 then (bif Nat.ble pc 1 then (bif Nat.beq pc 0 then some (.aload_n 0, 0, 0, 0, []) else bif Nat.beq pc 1 then some (.iload_n 1, 1, 0, 0, []) else none) else (bif Nat.beq pc 2 then some (.iload_n 2, 2, 0, 0, []) else bif Nat.beq pc 3 then some (.aload_n 0, 0, 0, 0, []) else bif Nat.beq pc 4 then some (.iload_n 1, 1, 0, 0, []) else none)) else (bif Nat.ble pc 9 then (bif Nat.beq pc 5 then some (.iload_n 2, 2, 0, 0, []) else bif Nat.beq pc 6 then some (.invokevirtual 27, 51, 2, 0, []) else bif Nat.beq pc 9 then some (.iload_n 3, 3, 0, 0, []) else none) else (bif Nat.beq pc 10 then some (.iadd, 0, 0, 0, []) else bif Nat.beq pc 11 then some (.invokevirtual 31, 59, 3, 0, []) else bif Nat.beq pc 14 then some (.return_, 0, 0, 0, []) else none))
def p61 (pc : Nat) : Option PE := bif Nat.ble pc 50 then (bif Nat.ble pc 24 then (bif Nat.ble pc 13 then (bif Nat.ble pc 5 then (bif Nat.ble pc 1 then (bif Nat.beq pc 0 then some (.iload_n 1, 1, 0, 0, []) else bif Nat.beq pc 1 then some (.ifCond .lt 12, 13, 0, 0, []) else none) else (bif Nat.beq pc 4 then some (.iload_n 1, 1, 0, 0, []) else bif Nat.beq pc 5 then some (.aload_n 0, 0, 0, 0, []) else none)) else (bif Nat.ble pc 9 then (bif Nat.beq pc 6 then some (.getfield 18, 8, 2, 0, []) else bif Nat.beq pc 9 then some (.arraylength, 0, 0, 0, []) else none) else (bif Nat.beq pc 10 then some (.if_icmp .lt 4, 14, 0, 0, []) else bif Nat.beq pc 13 then some (.return_, 0, 0, 0, []) else none))) else (bif Nat.ble pc 17 then (bif Nat.ble pc 15 then (bif Nat.beq pc 14 then some (.iload_n 1, 1, 0, 0, []) else bif Nat.beq pc 15 then some (.iconst 4, 0, 0, 4, []) else none) else (bif Nat.beq pc 16 then some (.imul, 0, 0, 0, []) else bif Nat.beq pc 17 then some (.istore 4, 4, 0, 0, []) else none)) else (bif Nat.ble pc 20 then (bif Nat.beq pc 19 then some (.aload_n 0, 0, 0, 0, []) else bif Nat.beq pc 20 then some (.getfield 18, 8, 2, 0, []) else none) else (bif Nat.beq pc 23 then some (.iload_n 1, 1, 0, 0, []) else bif Nat.beq pc 24 then some (.iaload, 20, 0, 0, []) else none)))) else (bif Nat.ble pc 39 then (bif Nat.ble pc 30 then (bif Nat.ble pc 26 then (bif Nat.beq pc 25 then some (.iconst 4, 0, 0, 4, []) else bif Nat.beq pc 26 then some (.if_icmp .lt 16, 42, 0, 0, []) else none) else (bif Nat.beq pc 29 then some (.aload_n 0, 0, 0, 0, []) else bif Nat.beq pc 30 then some (.iload 4, 4, 0, 0, []) else none)) else (bif Nat.ble pc 35 then (bif Nat.beq pc 32 then some (.invokevirtual 27, 62, 1, 0, []) else bif Nat.beq pc 35 then some (.aload_n 0, 0, 0, 0, []) else none) else (bif Nat.beq pc 36 then some (.getfield 18, 8, 2, 0, []) else bif Nat.beq pc 39 then some (.iload_n 1, 1, 0, 0, []) else none))) else (bif Nat.ble pc 44 then (bif Nat.ble pc 41 then (bif Nat.beq pc 40 then some (.iconst 3, 0, 0, 3, []) else bif Nat.beq pc 41 then some (.iastore, 0, 0, 0, []) else none) else (bif Nat.beq pc 42 then some (.iload 4, 4, 0, 0, []) else bif Nat.beq pc 44 then some (.aload_n 0, 0, 0, 0, []) else none)) else (bif Nat.ble pc 48 then (bif Nat.beq pc 45 then some (.getfield 18, 8, 2, 0, []) else bif Nat.beq pc 48 then some (.iload_n 1, 1, 0, 0, []) else none) else (bif Nat.beq pc 49 then some (.iaload, 20, 0, 0, []) else bif Nat.beq pc 50 then some (.iadd, 0, 0, 0, []) else none))))) else (bif Nat.ble pc 82 then (bif Nat.ble pc 65 then (bif Nat.ble pc 58 then (bif Nat.ble pc 53 then (bif Nat.beq pc 51 then some (.istore 5, 5, 0, 0, []) else bif Nat.beq pc 53 then some (.iload 5, 5, 0, 0, []) else none) else (bif Nat.beq pc 55 then some (.ifCond .lt 49, 104, 0, 0, []) else bif Nat.beq pc 58 then some (.iload 5, 5, 0, 0, []) else none)) else (bif Nat.ble pc 61 then (bif Nat.beq pc 60 then some (.aload_n 0, 0, 0, 0, []) else bif Nat.beq pc 61 then some (.getfield 9, 8, 0, 0, []) else none) else (bif Nat.beq pc 64 then some (.arraylength, 0, 0, 0, []) else bif Nat.beq pc 65 then some (.if_icmp .ge 39, 104, 0, 0, []) else none))) else (bif Nat.ble pc 74 then (bif Nat.ble pc 70 then (bif Nat.beq pc 68 then some (.iload 5, 5, 0, 0, []) else bif Nat.beq pc 70 then some (.aload_n 0, 0, 0, 0, []) else none) else (bif Nat.beq pc 71 then some (.getfield 15, 8, 1, 0, []) else bif Nat.beq pc 74 then some (.arraylength, 0, 0, 0, []) else none)) else (bif Nat.ble pc 78 then (bif Nat.beq pc 75 then some (.if_icmp .ge 29, 104, 0, 0, []) else bif Nat.beq pc 78 then some (.aload_n 0, 0, 0, 0, []) else none) else (bif Nat.beq pc 79 then some (.getfield 9, 8, 0, 0, []) else bif Nat.beq pc 82 then some (.iload 5, 5, 0, 0, []) else none)))) else (bif Nat.ble pc 94 then (bif Nat.ble pc 87 then (bif Nat.ble pc 85 then (bif Nat.beq pc 84 then some (.iload_n 2, 2, 0, 0, []) else bif Nat.beq pc 85 then some (.iastore, 0, 0, 0, []) else none) else (bif Nat.beq pc 86 then some (.aload_n 0, 0, 0, 0, []) else bif Nat.beq pc 87 then some (.getfield 15, 8, 1, 0, []) else none)) else (bif Nat.ble pc 92 then (bif Nat.beq pc 90 then some (.iload 5, 5, 0, 0, []) else bif Nat.beq pc 92 then some (.iload_n 3, 3, 0, 0, []) else none) else (bif Nat.beq pc 93 then some (.iastore, 0, 0, 0, []) else bif Nat.beq pc 94 then some (.aload_n 0, 0, 0, 0, []) else none))) else (bif Nat.ble pc 100 then (bif Nat.ble pc 98 then (bif Nat.beq pc 95 then some (.getfield 18, 8, 2, 0, []) else bif Nat.beq pc 98 then some (.iload_n 1, 1, 0, 0, []) else none) else (bif Nat.beq pc 99 then some (.dup2, 0, 0, 0, []) else bif Nat.beq pc 100 then some (.iaload, 20, 0, 0, []) else none)) else (bif Nat.ble pc 102 then (bif Nat.beq pc 101 then some (.iconst 1, 0, 0, 1, []) else bif Nat.beq pc 102 then some (.iadd, 0, 0, 0, []) else none) else (bif Nat.beq pc 103 then some (.iastore, 0, 0, 0, []) else bif Nat.beq pc 104 then some (.return_, 0, 0, 0, []) else none)))))
def p62 (pc : Nat) : Option PE := bif Nat.ble pc 33 then (bif Nat.ble pc 15 then (bif Nat.ble pc 5 then (bif Nat.ble pc 2 then (bif Nat.beq pc 0 then some (.iload_n 1, 1, 0, 0, []) else bif Nat.beq pc 1 then some (.istore_n 2, 2, 0, 0, []) else bif Nat.beq pc 2 then some (.iload_n 2, 2, 0, 0, []) else none) else (bif Nat.beq pc 3 then some (.iload_n 1, 1, 0, 0, []) else bif Nat.beq pc 4 then some (.iconst 4, 0, 0, 4, []) else bif Nat.beq pc 5 then some (.iadd, 0, 0, 0, []) else none)) else (bif Nat.ble pc 8 then (bif Nat.beq pc 6 then some (.iconst 1, 0, 0, 1, []) else bif Nat.beq pc 7 then some (.isub, 0, 0, 0, []) else bif Nat.beq pc 8 then some (.if_icmp .ge 63, 71, 0, 0, []) else none) else (bif Nat.beq pc 11 then some (.iload_n 2, 2, 0, 0, []) else bif Nat.beq pc 12 then some (.ifCond .lt 53, 65, 0, 0, []) else bif Nat.beq pc 15 then some (.iload_n 2, 2, 0, 0, []) else none))) else (bif Nat.ble pc 23 then (bif Nat.ble pc 18 then (bif Nat.beq pc 16 then some (.iconst 1, 0, 0, 1, []) else bif Nat.beq pc 17 then some (.iadd, 0, 0, 0, []) else bif Nat.beq pc 18 then some (.aload_n 0, 0, 0, 0, []) else none) else (bif Nat.beq pc 19 then some (.getfield 9, 8, 0, 0, []) else bif Nat.beq pc 22 then some (.arraylength, 0, 0, 0, []) else bif Nat.beq pc 23 then some (.if_icmp .ge 42, 65, 0, 0, []) else none)) else (bif Nat.ble pc 28 then (bif Nat.beq pc 26 then some (.iload_n 2, 2, 0, 0, []) else bif Nat.beq pc 27 then some (.iconst 1, 0, 0, 1, []) else bif Nat.beq pc 28 then some (.iadd, 0, 0, 0, []) else none) else (bif Nat.beq pc 29 then some (.aload_n 0, 0, 0, 0, []) else bif Nat.beq pc 30 then some (.getfield 15, 8, 1, 0, []) else bif Nat.beq pc 33 then some (.arraylength, 0, 0, 0, []) else none)))) else (bif Nat.ble pc 51 then (bif Nat.ble pc 43 then (bif Nat.ble pc 38 then (bif Nat.beq pc 34 then some (.if_icmp .ge 31, 65, 0, 0, []) else bif Nat.beq pc 37 then some (.aload_n 0, 0, 0, 0, []) else bif Nat.beq pc 38 then some (.getfield 9, 8, 0, 0, []) else none) else (bif Nat.beq pc 41 then some (.iload_n 2, 2, 0, 0, []) else bif Nat.beq pc 42 then some (.aload_n 0, 0, 0, 0, []) else bif Nat.beq pc 43 then some (.getfield 9, 8, 0, 0, []) else none)) else (bif Nat.ble pc 48 then (bif Nat.beq pc 46 then some (.iload_n 2, 2, 0, 0, []) else bif Nat.beq pc 47 then some (.iconst 1, 0, 0, 1, []) else bif Nat.beq pc 48 then some (.iadd, 0, 0, 0, []) else none) else (bif Nat.beq pc 49 then some (.iaload, 20, 0, 0, []) else bif Nat.beq pc 50 then some (.iastore, 0, 0, 0, []) else bif Nat.beq pc 51 then some (.aload_n 0, 0, 0, 0, []) else none))) else (bif Nat.ble pc 61 then (bif Nat.ble pc 56 then (bif Nat.beq pc 52 then some (.getfield 15, 8, 1, 0, []) else bif Nat.beq pc 55 then some (.iload_n 2, 2, 0, 0, []) else bif Nat.beq pc 56 then some (.aload_n 0, 0, 0, 0, []) else none) else (bif Nat.beq pc 57 then some (.getfield 15, 8, 1, 0, []) else bif Nat.beq pc 60 then some (.iload_n 2, 2, 0, 0, []) else bif Nat.beq pc 61 then some (.iconst 1, 0, 0, 1, []) else none)) else (bif Nat.ble pc 64 then (bif Nat.beq pc 62 then some (.iadd, 0, 0, 0, []) else bif Nat.beq pc 63 then some (.iaload, 20, 0, 0, []) else bif Nat.beq pc 64 then some (.iastore, 0, 0, 0, []) else none) else (bif Nat.beq pc 65 then some (.iinc 2 1, 2, 0, 1, []) else bif Nat.beq pc 68 then some (.goto (-66), 2, 0, 0, []) else bif Nat.beq pc 71 then some (.return_, 0, 0, 0, []) else none))))
def p63 (pc : Nat) : Option PE := bif Nat.ble pc 25 then (bif Nat.ble pc 11 then (bif Nat.ble pc 4 then (bif Nat.beq pc 0 then some (.aload_n 0, 0, 0, 0, []) else bif Nat.beq pc 1 then some (.getfield 14, 11, 0, 0, []) else bif Nat.beq pc 4 then some (.invokevirtual 51, 16, 0, 0, []) else none) else (bif Nat.beq pc 7 then some (.aload_n 0, 0, 0, 0, []) else bif Nat.beq pc 8 then some (.getfield 14, 11, 0, 0, []) else bif Nat.beq pc 11 then some (.aload_n 0, 0, 0, 0, []) else none)) else (bif Nat.ble pc 18 then (bif Nat.beq pc 12 then some (.getfield 21, 11, 1, 0, []) else bif Nat.beq pc 15 then some (.invokevirtual 66, 64, 1, 0, []) else bif Nat.beq pc 18 then some (.aload_n 0, 0, 0, 0, []) else none) else (bif Nat.beq pc 19 then some (.getfield 14, 11, 0, 0, []) else bif Nat.beq pc 22 then some (.invokevirtual 58, 45, 0, 0, []) else bif Nat.beq pc 25 then some (.istore_n 1, 1, 0, 0, []) else none))) else (bif Nat.ble pc 34 then (bif Nat.ble pc 30 then (bif Nat.beq pc 26 then some (.iload_n 1, 1, 0, 0, []) else bif Nat.beq pc 27 then some (.ifCond .lt 10, 37, 0, 0, []) else bif Nat.beq pc 30 then some (.bipush (-100), 0, 0, -100, []) else none) else (bif Nat.beq pc 32 then some (.iload_n 1, 1, 0, 0, []) else bif Nat.beq pc 33 then some (.isub, 0, 0, 0, []) else bif Nat.beq pc 34 then some (.goto 14, 48, 0, 0, []) else none)) else (bif Nat.ble pc 41 then (bif Nat.beq pc 37 then some (.aload_n 0, 0, 0, 0, []) else bif Nat.beq pc 38 then some (.getfield 28, 11, 2, 0, []) else bif Nat.beq pc 41 then some (.aload_n 0, 0, 0, 0, []) else none) else (bif Nat.beq pc 42 then some (.getfield 21, 11, 1, 0, []) else bif Nat.beq pc 45 then some (.invokevirtual 70, 67, 1, 0, []) else bif Nat.beq pc 48 then some (.ireturn, 0, 0, 0, []) else none)))
def p64 (pc : Nat) : Option PE := bif Nat.ble pc 27 then (bif Nat.ble pc 12 then (bif Nat.ble pc 5 then (bif Nat.ble pc 1 then (bif Nat.beq pc 0 then some (.aload_n 1, 1, 0, 0, []) else bif Nat.beq pc 1 then some (.invokevirtual 125, 65, 0, 0, []) else none) else (bif Nat.beq pc 4 then some (.iconst 0, 0, 0, 0, []) else bif Nat.beq pc 5 then some (.istore_n 2, 2, 0, 0, []) else none)) else (bif Nat.ble pc 7 then (bif Nat.beq pc 6 then some (.iload_n 2, 2, 0, 0, []) else bif Nat.beq pc 7 then some (.bipush 40, 0, 0, 40, []) else none) else (bif Nat.beq pc 9 then some (.if_icmp .ge 52, 61, 0, 0, []) else bif Nat.beq pc 12 then some (.aload_n 0, 0, 0, 0, []) else none))) else (bif Nat.ble pc 19 then (bif Nat.ble pc 15 then (bif Nat.beq pc 13 then some (.bipush 7, 0, 0, 7, []) else bif Nat.beq pc 15 then some (.invokevirtual 99, 32, 1, 0, []) else none) else (bif Nat.beq pc 18 then some (.istore_n 3, 3, 0, 0, []) else bif Nat.beq pc 19 then some (.aload_n 0, 0, 0, 0, []) else none)) else (bif Nat.ble pc 22 then (bif Nat.beq pc 20 then some (.bipush 58, 0, 0, 58, []) else bif Nat.beq pc 22 then some (.invokevirtual 105, 26, 1, 0, []) else none) else (bif Nat.beq pc 25 then some (.aload_n 1, 1, 0, 0, []) else bif Nat.beq pc 26 then some (.iload_n 3, 3, 0, 0, []) else bif Nat.beq pc 27 then some (.aload_n 0, 0, 0, 0, []) else none)))) else (bif Nat.ble pc 44 then (bif Nat.ble pc 35 then (bif Nat.ble pc 29 then (bif Nat.beq pc 28 then some (.iconst 0, 0, 0, 0, []) else bif Nat.beq pc 29 then some (.invokevirtual 130, 17, 1, 0, []) else none) else (bif Nat.beq pc 32 then some (.invokevirtual 134, 66, 2, 0, []) else bif Nat.beq pc 35 then some (.aload_n 0, 0, 0, 0, []) else none)) else (bif Nat.ble pc 39 then (bif Nat.beq pc 36 then some (.invokevirtual 38, 27, 0, 0, []) else bif Nat.beq pc 39 then some (.bipush 59, 0, 0, 59, []) else none) else (bif Nat.beq pc 41 then some (.if_icmp .eq 4, 45, 0, 0, []) else bif Nat.beq pc 44 then some (.return_, 0, 0, 0, []) else none))) else (bif Nat.ble pc 50 then (bif Nat.ble pc 46 then (bif Nat.beq pc 45 then some (.aload_n 0, 0, 0, 0, []) else bif Nat.beq pc 46 then some (.dup, 0, 0, 0, []) else none) else (bif Nat.beq pc 47 then some (.getfield 31, 10, 5, 0, []) else bif Nat.beq pc 50 then some (.iconst 1, 0, 0, 1, []) else none)) else (bif Nat.ble pc 52 then (bif Nat.beq pc 51 then some (.iadd, 0, 0, 0, []) else bif Nat.beq pc 52 then some (.putfield 31, 10, 5, 0, []) else none) else (bif Nat.beq pc 55 then some (.iinc 2 1, 2, 0, 1, []) else bif Nat.beq pc 58 then some (.goto (-52), 6, 0, 0, []) else bif Nat.beq pc 61 then some (.return_, 0, 0, 0, []) else none))))
def p65 (pc : Nat) : Option PE := bif Nat.ble pc 1 then (bif Nat.beq pc 0 then some (.aload_n 0, 0, 0, 0, []) else bif Nat.beq pc 1 then some (.iconst 0, 0, 0, 0, []) else none) else (bif Nat.beq pc 2 then some (.putfield 28, 0, 3, 0, []) else bif Nat.beq pc 5 then some (.return_, 0, 0, 0, []) else none)
def p66 (pc : Nat) : Option PE := bif Nat.ble pc 19 then (bif Nat.ble pc 9 then (bif Nat.ble pc 1 then (bif Nat.beq pc 0 then some (.aload_n 0, 0, 0, 0, []) else bif Nat.beq pc 1 then some (.getfield 28, 0, 3, 0, []) else none) else (bif Nat.beq pc 4 then some (.bipush 40, 0, 0, 40, []) else bif Nat.beq pc 6 then some (.if_icmp .ge 33, 39, 0, 0, []) else bif Nat.beq pc 9 then some (.aload_n 0, 0, 0, 0, []) else none)) else (bif Nat.ble pc 14 then (bif Nat.beq pc 10 then some (.getfield 9, 0, 0, 0, []) else bif Nat.beq pc 13 then some (.aload_n 0, 0, 0, 0, []) else bif Nat.beq pc 14 then some (.getfield 28, 0, 3, 0, []) else none) else (bif Nat.beq pc 17 then some (.iload_n 1, 1, 0, 0, []) else bif Nat.beq pc 18 then some (.iastore, 0, 0, 0, []) else bif Nat.beq pc 19 then some (.aload_n 0, 0, 0, 0, []) else none))) else (bif Nat.ble pc 29 then (bif Nat.ble pc 24 then (bif Nat.beq pc 20 then some (.getfield 17, 0, 1, 0, []) else bif Nat.beq pc 23 then some (.aload_n 0, 0, 0, 0, []) else bif Nat.beq pc 24 then some (.getfield 28, 0, 3, 0, []) else none) else (bif Nat.beq pc 27 then some (.aload_n 2, 2, 0, 0, []) else bif Nat.beq pc 28 then some (.aastore, 0, 0, 0, []) else bif Nat.beq pc 29 then some (.aload_n 0, 0, 0, 0, []) else none)) else (bif Nat.ble pc 34 then (bif Nat.beq pc 30 then some (.dup, 0, 0, 0, []) else bif Nat.beq pc 31 then some (.getfield 28, 0, 3, 0, []) else bif Nat.beq pc 34 then some (.iconst 1, 0, 0, 1, []) else none) else (bif Nat.beq pc 35 then some (.iadd, 0, 0, 0, []) else bif Nat.beq pc 36 then some (.putfield 28, 0, 3, 0, []) else bif Nat.beq pc 39 then some (.return_, 0, 0, 0, []) else none)))
def p67 (pc : Nat) : Option PE := bif Nat.ble pc 47 then (bif Nat.ble pc 23 then (bif Nat.ble pc 9 then (bif Nat.ble pc 2 then (bif Nat.beq pc 0 then some (.aload_n 1, 1, 0, 0, []) else bif Nat.beq pc 1 then some (.aload_n 0, 0, 0, 0, []) else bif Nat.beq pc 2 then some (.getfield 21, 9, 1, 0, []) else none) else (bif Nat.beq pc 5 then some (.aload_n 0, 0, 0, 0, []) else bif Nat.beq pc 6 then some (.getfield 12, 9, 0, 0, []) else bif Nat.beq pc 9 then some (.invokevirtual 143, 53, 0, 0, []) else none)) else (bif Nat.ble pc 16 then (bif Nat.beq pc 12 then some (.invokevirtual 172, 68, 2, 0, []) else bif Nat.beq pc 15 then some (.aload_n 1, 1, 0, 0, []) else bif Nat.beq pc 16 then some (.getfield 178, 0, 4, 0, []) else none) else (bif Nat.beq pc 19 then some (.aload_n 1, 1, 0, 0, []) else bif Nat.beq pc 20 then some (.getfield 181, 0, 3, 0, []) else bif Nat.beq pc 23 then some (.if_icmp .ge 24, 47, 0, 0, []) else none))) else (bif Nat.ble pc 35 then (bif Nat.ble pc 30 then (bif Nat.beq pc 26 then some (.aload_n 1, 1, 0, 0, []) else bif Nat.beq pc 27 then some (.getfield 184, 0, 6, 0, []) else bif Nat.beq pc 30 then some (.ifCond .eq 8, 38, 0, 0, []) else none) else (bif Nat.beq pc 33 then some (.aload_n 0, 0, 0, 0, []) else bif Nat.beq pc 34 then some (.iconst 3, 0, 0, 3, []) else bif Nat.beq pc 35 then some (.invokevirtual 120, 47, 1, 0, []) else none)) else (bif Nat.ble pc 42 then (bif Nat.beq pc 38 then some (.sipush (-300), 0, 0, -300, []) else bif Nat.beq pc 41 then some (.aload_n 1, 1, 0, 0, []) else bif Nat.beq pc 42 then some (.getfield 178, 0, 4, 0, []) else none) else (bif Nat.beq pc 45 then some (.isub, 0, 0, 0, []) else bif Nat.beq pc 46 then some (.ireturn, 0, 0, 0, []) else bif Nat.beq pc 47 then some (.iconst 0, 0, 0, 0, []) else none)))) else (bif Nat.ble pc 67 then (bif Nat.ble pc 57 then (bif Nat.ble pc 50 then (bif Nat.beq pc 48 then some (.istore_n 2, 2, 0, 0, []) else bif Nat.beq pc 49 then some (.iload_n 2, 2, 0, 0, []) else bif Nat.beq pc 50 then some (.aload_n 1, 1, 0, 0, []) else none) else (bif Nat.beq pc 51 then some (.getfield 181, 0, 3, 0, []) else bif Nat.beq pc 54 then some (.if_icmp .ge 34, 88, 0, 0, []) else bif Nat.beq pc 57 then some (.aload_n 1, 1, 0, 0, []) else none)) else (bif Nat.ble pc 62 then (bif Nat.beq pc 58 then some (.iload_n 2, 2, 0, 0, []) else bif Nat.beq pc 59 then some (.invokevirtual 188, 70, 1, 0, []) else bif Nat.beq pc 62 then some (.astore_n 3, 3, 0, 0, []) else none) else (bif Nat.beq pc 63 then some (.aload_n 3, 3, 0, 0, []) else bif Nat.beq pc 64 then some (.ifnull 18, 82, 0, 0, []) else bif Nat.beq pc 67 then some (.aload_n 0, 0, 0, 0, []) else none))) else (bif Nat.ble pc 75 then (bif Nat.ble pc 70 then (bif Nat.beq pc 68 then some (.aload_n 1, 1, 0, 0, []) else bif Nat.beq pc 69 then some (.iload_n 2, 2, 0, 0, []) else bif Nat.beq pc 70 then some (.invokevirtual 192, 71, 1, 0, []) else none) else (bif Nat.beq pc 73 then some (.aload_n 3, 3, 0, 0, []) else bif Nat.beq pc 74 then some (.aload_n 3, 3, 0, 0, []) else bif Nat.beq pc 75 then some (.getfield 128, 2, 1, 0, []) else none)) else (bif Nat.ble pc 82 then (bif Nat.beq pc 78 then some (.invokevirtual 133, 49, 3, 0, []) else bif Nat.beq pc 81 then some (.pop, 0, 0, 0, []) else bif Nat.beq pc 82 then some (.iinc 2 1, 2, 0, 1, []) else none) else (bif Nat.ble pc 88 then (bif Nat.beq pc 85 then some (.goto (-36), 49, 0, 0, []) else bif Nat.beq pc 88 then some (.aload_n 1, 1, 0, 0, []) else none) else (bif Nat.beq pc 89 then some (.getfield 195, 0, 5, 0, []) else bif Nat.beq pc 92 then some (.ireturn, 0, 0, 0, []) else none)))))
def p68 (pc : Nat) : Option PE := bif Nat.ble pc 62 then (bif Nat.ble pc 26 then (bif Nat.ble pc 13 then (bif Nat.ble pc 5 then (bif Nat.ble pc 1 then (bif Nat.beq pc 0 then some (.aload_n 0, 0, 0, 0, []) else bif Nat.beq pc 1 then some (.getfield 24, 0, 2, 0, []) else none) else (bif Nat.beq pc 4 then some (.aload_n 1, 1, 0, 0, []) else bif Nat.beq pc 5 then some (.invokevirtual 32, 69, 1, 0, []) else none)) else (bif Nat.ble pc 9 then (bif Nat.beq pc 8 then some (.aload_n 0, 0, 0, 0, []) else bif Nat.beq pc 9 then some (.iconst 0, 0, 0, 0, []) else none) else (bif Nat.beq pc 10 then some (.putfield 36, 0, 4, 0, []) else bif Nat.beq pc 13 then some (.aload_n 0, 0, 0, 0, []) else none))) else (bif Nat.ble pc 19 then (bif Nat.ble pc 15 then (bif Nat.beq pc 14 then some (.iconst 0, 0, 0, 0, []) else bif Nat.beq pc 15 then some (.putfield 39, 0, 5, 0, []) else none) else (bif Nat.beq pc 18 then some (.aload_n 0, 0, 0, 0, []) else bif Nat.beq pc 19 then some (.iconst 0, 0, 0, 0, []) else none)) else (bif Nat.ble pc 23 then (bif Nat.beq pc 20 then some (.putfield 42, 0, 6, 0, []) else bif Nat.beq pc 23 then some (.iconst 0, 0, 0, 0, []) else none) else (bif Nat.beq pc 24 then some (.istore_n 3, 3, 0, 0, []) else bif Nat.beq pc 25 then some (.iload_n 3, 3, 0, 0, []) else bif Nat.beq pc 26 then some (.aload_n 0, 0, 0, 0, []) else none)))) else (bif Nat.ble pc 45 then (bif Nat.ble pc 34 then (bif Nat.ble pc 30 then (bif Nat.beq pc 27 then some (.getfield 28, 0, 3, 0, []) else bif Nat.beq pc 30 then some (.if_icmp .ge 100, 130, 0, 0, []) else none) else (bif Nat.beq pc 33 then some (.aload_n 0, 0, 0, 0, []) else bif Nat.beq pc 34 then some (.iload_n 3, 3, 0, 0, []) else none)) else (bif Nat.ble pc 38 then (bif Nat.beq pc 35 then some (.invokevirtual 46, 70, 1, 0, []) else bif Nat.beq pc 38 then some (.astore 4, 4, 0, 0, []) else none) else (bif Nat.beq pc 40 then some (.aload 4, 4, 0, 0, []) else bif Nat.beq pc 42 then some (.ifnonnull 4, 46, 0, 0, []) else bif Nat.beq pc 45 then some (.return_, 0, 0, 0, []) else none))) else (bif Nat.ble pc 51 then (bif Nat.ble pc 47 then (bif Nat.beq pc 46 then some (.aload_n 0, 0, 0, 0, []) else bif Nat.beq pc 47 then some (.getfield 24, 0, 2, 0, []) else none) else (bif Nat.beq pc 50 then some (.aload_n 0, 0, 0, 0, []) else bif Nat.beq pc 51 then some (.iload_n 3, 3, 0, 0, []) else none)) else (bif Nat.ble pc 55 then (bif Nat.beq pc 52 then some (.invokevirtual 50, 71, 1, 0, []) else bif Nat.beq pc 55 then some (.aload 4, 4, 0, 0, []) else none) else (bif Nat.beq pc 57 then some (.aload 4, 4, 0, 0, []) else bif Nat.beq pc 59 then some (.getfield 54, 2, 1, 0, []) else bif Nat.beq pc 62 then some (.invokevirtual 57, 50, 3, 0, []) else none))))) else (bif Nat.ble pc 92 then (bif Nat.ble pc 78 then (bif Nat.ble pc 70 then (bif Nat.ble pc 68 then (bif Nat.beq pc 65 then some (.ifCond .le 9, 74, 0, 0, []) else bif Nat.beq pc 68 then some (.aload_n 0, 0, 0, 0, []) else none) else (bif Nat.beq pc 69 then some (.iconst 1, 0, 0, 1, []) else bif Nat.beq pc 70 then some (.putfield 42, 0, 6, 0, []) else none)) else (bif Nat.ble pc 74 then (bif Nat.beq pc 73 then some (.return_, 0, 0, 0, []) else bif Nat.beq pc 74 then some (.aload_n 0, 0, 0, 0, []) else none) else (bif Nat.beq pc 75 then some (.getfield 39, 0, 5, 0, []) else bif Nat.beq pc 78 then some (.aload 4, 4, 0, 0, []) else none))) else (bif Nat.ble pc 85 then (bif Nat.ble pc 83 then (bif Nat.beq pc 80 then some (.invokevirtual 61, 52, 0, 0, []) else bif Nat.beq pc 83 then some (.iadd, 0, 0, 0, []) else none) else (bif Nat.beq pc 84 then some (.iload_n 2, 2, 0, 0, []) else bif Nat.beq pc 85 then some (.if_icmp .le 4, 89, 0, 0, []) else none)) else (bif Nat.ble pc 89 then (bif Nat.beq pc 88 then some (.return_, 0, 0, 0, []) else bif Nat.beq pc 89 then some (.aload_n 0, 0, 0, 0, []) else none) else (bif Nat.beq pc 90 then some (.aload_n 0, 0, 0, 0, []) else bif Nat.beq pc 91 then some (.iload_n 3, 3, 0, 0, []) else bif Nat.beq pc 92 then some (.invokevirtual 50, 71, 1, 0, []) else none)))) else (bif Nat.ble pc 111 then (bif Nat.ble pc 101 then (bif Nat.ble pc 97 then (bif Nat.beq pc 95 then some (.aload 4, 4, 0, 0, []) else bif Nat.beq pc 97 then some (.invokevirtual 64, 72, 2, 0, []) else none) else (bif Nat.beq pc 100 then some (.aload_n 0, 0, 0, 0, []) else bif Nat.beq pc 101 then some (.dup, 0, 0, 0, []) else none)) else (bif Nat.ble pc 105 then (bif Nat.beq pc 102 then some (.getfield 39, 0, 5, 0, []) else bif Nat.beq pc 105 then some (.aload 4, 4, 0, 0, []) else none) else (bif Nat.beq pc 107 then some (.invokevirtual 61, 52, 0, 0, []) else bif Nat.beq pc 110 then some (.iadd, 0, 0, 0, []) else bif Nat.beq pc 111 then some (.putfield 39, 0, 5, 0, []) else none))) else (bif Nat.ble pc 119 then (bif Nat.ble pc 115 then (bif Nat.beq pc 114 then some (.aload_n 0, 0, 0, 0, []) else bif Nat.beq pc 115 then some (.dup, 0, 0, 0, []) else none) else (bif Nat.beq pc 116 then some (.getfield 36, 0, 4, 0, []) else bif Nat.beq pc 119 then some (.iconst 1, 0, 0, 1, []) else none)) else (bif Nat.ble pc 121 then (bif Nat.beq pc 120 then some (.iadd, 0, 0, 0, []) else bif Nat.beq pc 121 then some (.putfield 36, 0, 4, 0, []) else none) else (bif Nat.beq pc 124 then some (.iinc 3 1, 3, 0, 1, []) else bif Nat.beq pc 127 then some (.goto (-102), 25, 0, 0, []) else bif Nat.beq pc 130 then some (.return_, 0, 0, 0, []) else none)))))
def p69 (pc : Nat) : Option PE := bif Nat.ble pc 6 then (bif Nat.ble pc 1 then (bif Nat.beq pc 0 then some (.aload_n 1, 1, 0, 0, []) else bif Nat.beq pc 1 then some (.getfield 9, 1, 0, 0, []) else none) else (bif Nat.beq pc 4 then some (.iconst 0, 0, 0, 0, []) else bif Nat.beq pc 5 then some (.aload_n 0, 0, 0, 0, []) else bif Nat.beq pc 6 then some (.getfield 9, 1, 0, 0, []) else none)) else (bif Nat.ble pc 11 then (bif Nat.beq pc 9 then some (.iconst 0, 0, 0, 0, []) else bif Nat.beq pc 10 then some (.aload_n 0, 0, 0, 0, []) else bif Nat.beq pc 11 then some (.getfield 9, 1, 0, 0, []) else none) else (bif Nat.beq pc 14 then some (.arraylength, 0, 0, 0, []) else bif Nat.beq pc 15 then some (.invokestatic 21, 0, 9, 0, []) else bif Nat.beq pc 18 then some (.return_, 0, 0, 0, []) else none))
def p70 (pc : Nat) : Option PE := bif Nat.ble pc 14 then (bif Nat.ble pc 5 then (bif Nat.ble pc 1 then (bif Nat.beq pc 0 then some (.iload_n 1, 1, 0, 0, []) else bif Nat.beq pc 1 then some (.ifCond .lt 29, 30, 0, 0, []) else none) else (bif Nat.beq pc 4 then some (.iload_n 1, 1, 0, 0, []) else bif Nat.beq pc 5 then some (.aload_n 0, 0, 0, 0, []) else none)) else (bif Nat.ble pc 9 then (bif Nat.beq pc 6 then some (.getfield 28, 0, 3, 0, []) else bif Nat.beq pc 9 then some (.if_icmp .ge 21, 30, 0, 0, []) else none) else (bif Nat.beq pc 12 then some (.iload_n 1, 1, 0, 0, []) else bif Nat.beq pc 13 then some (.aload_n 0, 0, 0, 0, []) else bif Nat.beq pc 14 then some (.getfield 17, 0, 1, 0, []) else none))) else (bif Nat.ble pc 22 then (bif Nat.ble pc 18 then (bif Nat.beq pc 17 then some (.arraylength, 0, 0, 0, []) else bif Nat.beq pc 18 then some (.if_icmp .ge 12, 30, 0, 0, []) else none) else (bif Nat.beq pc 21 then some (.aload_n 0, 0, 0, 0, []) else bif Nat.beq pc 22 then some (.getfield 17, 0, 1, 0, []) else none)) else (bif Nat.ble pc 26 then (bif Nat.beq pc 25 then some (.iload_n 1, 1, 0, 0, []) else bif Nat.beq pc 26 then some (.aaload, 0, 0, 0, []) else none) else (bif Nat.beq pc 27 then some (.goto 4, 31, 0, 0, []) else bif Nat.beq pc 30 then some (.aconst_null, 0, 0, 0, []) else bif Nat.beq pc 31 then some (.areturn, 0, 0, 0, []) else none)))
def p71 (pc : Nat) : Option PE := bif Nat.ble pc 14 then (bif Nat.ble pc 5 then (bif Nat.ble pc 1 then (bif Nat.beq pc 0 then some (.iload_n 1, 1, 0, 0, []) else bif Nat.beq pc 1 then some (.ifCond .lt 29, 30, 0, 0, []) else none) else (bif Nat.beq pc 4 then some (.iload_n 1, 1, 0, 0, []) else bif Nat.beq pc 5 then some (.aload_n 0, 0, 0, 0, []) else none)) else (bif Nat.ble pc 9 then (bif Nat.beq pc 6 then some (.getfield 28, 0, 3, 0, []) else bif Nat.beq pc 9 then some (.if_icmp .ge 21, 30, 0, 0, []) else none) else (bif Nat.beq pc 12 then some (.iload_n 1, 1, 0, 0, []) else bif Nat.beq pc 13 then some (.aload_n 0, 0, 0, 0, []) else bif Nat.beq pc 14 then some (.getfield 9, 0, 0, 0, []) else none))) else (bif Nat.ble pc 22 then (bif Nat.ble pc 18 then (bif Nat.beq pc 17 then some (.arraylength, 0, 0, 0, []) else bif Nat.beq pc 18 then some (.if_icmp .ge 12, 30, 0, 0, []) else none) else (bif Nat.beq pc 21 then some (.aload_n 0, 0, 0, 0, []) else bif Nat.beq pc 22 then some (.getfield 9, 0, 0, 0, []) else none)) else (bif Nat.ble pc 26 then (bif Nat.beq pc 25 then some (.iload_n 1, 1, 0, 0, []) else bif Nat.beq pc 26 then some (.iaload, 20, 0, 0, []) else none) else (bif Nat.beq pc 27 then some (.goto 4, 31, 0, 0, []) else bif Nat.beq pc 30 then some (.iconst 0, 0, 0, 0, []) else bif Nat.beq pc 31 then some (.ireturn, 0, 0, 0, []) else none)))
def p72 (pc : Nat) : Option PE := bif Nat.ble pc 17 then (bif Nat.ble pc 6 then (bif Nat.ble pc 1 then (bif Nat.beq pc 0 then some (.aload_n 0, 0, 0, 0, []) else bif Nat.beq pc 1 then some (.getfield 24, 0, 2, 0, []) else none) else (bif Nat.beq pc 4 then some (.iload_n 1, 1, 0, 0, []) else bif Nat.beq pc 5 then some (.aload_n 2, 2, 0, 0, []) else bif Nat.beq pc 6 then some (.getfield 68, 2, 0, 0, []) else none)) else (bif Nat.ble pc 10 then (bif Nat.beq pc 9 then some (.aload_n 2, 2, 0, 0, []) else bif Nat.beq pc 10 then some (.getfield 54, 2, 1, 0, []) else none) else (bif Nat.beq pc 13 then some (.invokevirtual 71, 58, 3, 0, []) else bif Nat.beq pc 16 then some (.aload_n 2, 2, 0, 0, []) else bif Nat.beq pc 17 then some (.getfield 68, 2, 0, 0, []) else none))) else (bif Nat.ble pc 29 then (bif Nat.ble pc 22 then (bif Nat.beq pc 20 then some (.bipush 6, 0, 0, 6, []) else bif Nat.beq pc 22 then some (.if_icmp .ne 20, 42, 0, 0, []) else none) else (bif Nat.beq pc 25 then some (.aload_n 0, 0, 0, 0, []) else bif Nat.beq pc 26 then some (.getfield 24, 0, 2, 0, []) else bif Nat.beq pc 29 then some (.aload_n 2, 2, 0, 0, []) else none)) else (bif Nat.ble pc 35 then (bif Nat.beq pc 30 then some (.getfield 75, 2, 2, 0, []) else bif Nat.beq pc 33 then some (.bipush 7, 0, 0, 7, []) else bif Nat.beq pc 35 then some (.aload_n 2, 2, 0, 0, []) else none) else (bif Nat.beq pc 36 then some (.getfield 54, 2, 1, 0, []) else bif Nat.beq pc 39 then some (.invokevirtual 71, 58, 3, 0, []) else bif Nat.beq pc 42 then some (.return_, 0, 0, 0, []) else none)))
def p73 (pc : Nat) : Option PE := bif Nat.ble pc 43 then (bif Nat.ble pc 21 then (bif Nat.ble pc 8 then (bif Nat.ble pc 1 then (bif Nat.beq pc 0 then some (.aload_n 0, 0, 0, 0, []) else bif Nat.beq pc 1 then some (.getfield 14, 11, 0, 0, []) else none) else (bif Nat.beq pc 4 then some (.invokevirtual 51, 16, 0, 0, []) else bif Nat.beq pc 7 then some (.aload_n 0, 0, 0, 0, []) else bif Nat.beq pc 8 then some (.getfield 14, 11, 0, 0, []) else none)) else (bif Nat.ble pc 16 then (bif Nat.beq pc 11 then some (.ldc 74, 1, 17, 0, []) else bif Nat.beq pc 13 then some (.invokevirtual 76, 18, 1, 0, []) else bif Nat.beq pc 16 then some (.istore_n 1, 1, 0, 0, []) else none) else (bif Nat.beq pc 17 then some (.aload_n 0, 0, 0, 0, []) else bif Nat.beq pc 18 then some (.getfield 14, 11, 0, 0, []) else bif Nat.beq pc 21 then some (.bipush 58, 0, 0, 58, []) else none))) else (bif Nat.ble pc 32 then (bif Nat.ble pc 26 then (bif Nat.beq pc 23 then some (.invokevirtual 80, 26, 1, 0, []) else bif Nat.beq pc 26 then some (.aload_n 0, 0, 0, 0, []) else none) else (bif Nat.beq pc 27 then some (.getfield 14, 11, 0, 0, []) else bif Nat.beq pc 30 then some (.ldc 84, 1, 19, 0, []) else bif Nat.beq pc 32 then some (.iconst 0, 0, 0, 0, []) else none)) else (bif Nat.ble pc 37 then (bif Nat.beq pc 33 then some (.invokevirtual 86, 28, 2, 0, []) else bif Nat.beq pc 36 then some (.astore_n 2, 2, 0, 0, []) else bif Nat.beq pc 37 then some (.aload_n 0, 0, 0, 0, []) else none) else (bif Nat.beq pc 38 then some (.getfield 14, 11, 0, 0, []) else bif Nat.beq pc 41 then some (.bipush 44, 0, 0, 44, []) else bif Nat.beq pc 43 then some (.invokevirtual 80, 26, 1, 0, []) else none)))) else (bif Nat.ble pc 66 then (bif Nat.ble pc 53 then (bif Nat.ble pc 47 then (bif Nat.beq pc 46 then some (.aload_n 0, 0, 0, 0, []) else bif Nat.beq pc 47 then some (.getfield 14, 11, 0, 0, []) else none) else (bif Nat.beq pc 50 then some (.ldc 84, 1, 19, 0, []) else bif Nat.beq pc 52 then some (.iconst 0, 0, 0, 0, []) else bif Nat.beq pc 53 then some (.invokevirtual 86, 28, 2, 0, []) else none)) else (bif Nat.ble pc 58 then (bif Nat.beq pc 56 then some (.astore_n 3, 3, 0, 0, []) else bif Nat.beq pc 57 then some (.aload_n 0, 0, 0, 0, []) else bif Nat.beq pc 58 then some (.getfield 14, 11, 0, 0, []) else none) else (bif Nat.beq pc 61 then some (.invokevirtual 58, 45, 0, 0, []) else bif Nat.beq pc 64 then some (.istore 4, 4, 0, 0, []) else bif Nat.beq pc 66 then some (.iload 4, 4, 0, 0, []) else none))) else (bif Nat.ble pc 79 then (bif Nat.ble pc 73 then (bif Nat.beq pc 68 then some (.ifCond .lt 11, 79, 0, 0, []) else bif Nat.beq pc 71 then some (.bipush (-100), 0, 0, -100, []) else bif Nat.beq pc 73 then some (.iload 4, 4, 0, 0, []) else none) else (bif Nat.beq pc 75 then some (.isub, 0, 0, 0, []) else bif Nat.beq pc 76 then some (.goto 13, 89, 0, 0, []) else bif Nat.beq pc 79 then some (.aload_n 0, 0, 0, 0, []) else none)) else (bif Nat.ble pc 84 then (bif Nat.beq pc 80 then some (.getfield 28, 11, 2, 0, []) else bif Nat.beq pc 83 then some (.iload_n 1, 1, 0, 0, []) else bif Nat.beq pc 84 then some (.aload_n 2, 2, 0, 0, []) else none) else (bif Nat.beq pc 85 then some (.aload_n 3, 3, 0, 0, []) else bif Nat.beq pc 86 then some (.invokevirtual 90, 74, 3, 0, []) else bif Nat.beq pc 89 then some (.ireturn, 0, 0, 0, []) else none))))
def p74 (pc : Nat) : Option PE := bif Nat.ble pc 17 then (bif Nat.ble pc 6 then (bif Nat.ble pc 1 then (bif Nat.beq pc 0 then some (.aload_n 0, 0, 0, 0, []) else bif Nat.beq pc 1 then some (.getfield 31, 9, 3, 0, []) else none) else (bif Nat.beq pc 4 then some (.iload_n 1, 1, 0, 0, []) else bif Nat.beq pc 5 then some (.aload_n 2, 2, 0, 0, []) else bif Nat.beq pc 6 then some (.aload_n 3, 3, 0, 0, []) else none)) else (bif Nat.ble pc 10 then (bif Nat.beq pc 7 then some (.invokevirtual 197, 75, 3, 0, []) else bif Nat.beq pc 10 then some (.istore 4, 4, 0, 0, []) else none) else (bif Nat.beq pc 12 then some (.iload 4, 4, 0, 0, []) else bif Nat.beq pc 14 then some (.ifCond .le 25, 39, 0, 0, []) else bif Nat.beq pc 17 then some (.aload_n 0, 0, 0, 0, []) else none))) else (bif Nat.ble pc 28 then (bif Nat.ble pc 19 then (bif Nat.beq pc 18 then some (.aload_n 0, 0, 0, 0, []) else bif Nat.beq pc 19 then some (.getfield 12, 9, 0, 0, []) else none) else (bif Nat.beq pc 22 then some (.getfield 200, 5, 4, 0, []) else bif Nat.beq pc 25 then some (.invokevirtual 202, 76, 1, 0, []) else bif Nat.beq pc 28 then some (.aload_n 0, 0, 0, 0, []) else none)) else (bif Nat.ble pc 33 then (bif Nat.beq pc 29 then some (.getfield 21, 9, 1, 0, []) else bif Nat.beq pc 32 then some (.aload_n 0, 0, 0, 0, []) else bif Nat.beq pc 33 then some (.getfield 25, 9, 2, 0, []) else none) else (bif Nat.beq pc 36 then some (.invokevirtual 91, 69, 1, 0, []) else bif Nat.beq pc 39 then some (.iload 4, 4, 0, 0, []) else bif Nat.beq pc 41 then some (.ireturn, 0, 0, 0, []) else none)))
def p75 (pc : Nat) : Option PE := bif Nat.ble pc 55 then (bif Nat.ble pc 27 then (bif Nat.ble pc 13 then (bif Nat.ble pc 5 then (bif Nat.ble pc 1 then (bif Nat.beq pc 0 then some (.iload_n 1, 1, 0, 0, []) else bif Nat.beq pc 1 then some (.ifCond .lt 12, 13, 0, 0, []) else none) else (bif Nat.beq pc 4 then some (.iload_n 1, 1, 0, 0, []) else bif Nat.beq pc 5 then some (.aload_n 0, 0, 0, 0, []) else none)) else (bif Nat.ble pc 9 then (bif Nat.beq pc 6 then some (.getfield 9, 3, 0, 0, []) else bif Nat.beq pc 9 then some (.arraylength, 0, 0, 0, []) else none) else (bif Nat.beq pc 10 then some (.if_icmp .lt 5, 15, 0, 0, []) else bif Nat.beq pc 13 then some (.iconst (-1), 0, 0, -1, []) else none))) else (bif Nat.ble pc 19 then (bif Nat.ble pc 15 then (bif Nat.beq pc 14 then some (.ireturn, 0, 0, 0, []) else bif Nat.beq pc 15 then some (.aload_n 0, 0, 0, 0, []) else none) else (bif Nat.beq pc 16 then some (.getfield 9, 3, 0, 0, []) else bif Nat.beq pc 19 then some (.iload_n 1, 1, 0, 0, []) else none)) else (bif Nat.ble pc 21 then (bif Nat.beq pc 20 then some (.iaload, 20, 0, 0, []) else bif Nat.beq pc 21 then some (.iconst 3, 0, 0, 3, []) else none) else (bif Nat.beq pc 22 then some (.if_icmp .lt 6, 28, 0, 0, []) else bif Nat.beq pc 25 then some (.bipush (-3), 0, 0, -3, []) else bif Nat.beq pc 27 then some (.ireturn, 0, 0, 0, []) else none)))) else (bif Nat.ble pc 37 then (bif Nat.ble pc 31 then (bif Nat.ble pc 29 then (bif Nat.beq pc 28 then some (.iload_n 1, 1, 0, 0, []) else bif Nat.beq pc 29 then some (.iconst 3, 0, 0, 3, []) else none) else (bif Nat.beq pc 30 then some (.imul, 0, 0, 0, []) else bif Nat.beq pc 31 then some (.aload_n 0, 0, 0, 0, []) else none)) else (bif Nat.ble pc 35 then (bif Nat.beq pc 32 then some (.getfield 9, 3, 0, 0, []) else bif Nat.beq pc 35 then some (.iload_n 1, 1, 0, 0, []) else none) else (bif Nat.beq pc 36 then some (.iaload, 20, 0, 0, []) else bif Nat.beq pc 37 then some (.iadd, 0, 0, 0, []) else none))) else (bif Nat.ble pc 45 then (bif Nat.ble pc 40 then (bif Nat.beq pc 38 then some (.istore 4, 4, 0, 0, []) else bif Nat.beq pc 40 then some (.iload 4, 4, 0, 0, []) else none) else (bif Nat.beq pc 42 then some (.ifCond .lt 23, 65, 0, 0, []) else bif Nat.beq pc 45 then some (.iload 4, 4, 0, 0, []) else none)) else (bif Nat.ble pc 48 then (bif Nat.beq pc 47 then some (.aload_n 0, 0, 0, 0, []) else bif Nat.beq pc 48 then some (.getfield 17, 3, 1, 0, []) else none) else (bif Nat.beq pc 51 then some (.arraylength, 0, 0, 0, []) else bif Nat.beq pc 52 then some (.if_icmp .ge 13, 65, 0, 0, []) else bif Nat.beq pc 55 then some (.iload 4, 4, 0, 0, []) else none))))) else (bif Nat.ble pc 84 then (bif Nat.ble pc 69 then (bif Nat.ble pc 62 then (bif Nat.ble pc 58 then (bif Nat.beq pc 57 then some (.aload_n 0, 0, 0, 0, []) else bif Nat.beq pc 58 then some (.getfield 21, 3, 2, 0, []) else none) else (bif Nat.beq pc 61 then some (.arraylength, 0, 0, 0, []) else bif Nat.beq pc 62 then some (.if_icmp .lt 6, 68, 0, 0, []) else none)) else (bif Nat.ble pc 67 then (bif Nat.beq pc 65 then some (.bipush (-3), 0, 0, -3, []) else bif Nat.beq pc 67 then some (.ireturn, 0, 0, 0, []) else none) else (bif Nat.beq pc 68 then some (.aload_n 0, 0, 0, 0, []) else bif Nat.beq pc 69 then some (.getfield 17, 3, 1, 0, []) else none))) else (bif Nat.ble pc 76 then (bif Nat.ble pc 74 then (bif Nat.beq pc 72 then some (.iload 4, 4, 0, 0, []) else bif Nat.beq pc 74 then some (.aload_n 2, 2, 0, 0, []) else none) else (bif Nat.beq pc 75 then some (.aastore, 0, 0, 0, []) else bif Nat.beq pc 76 then some (.aload_n 0, 0, 0, 0, []) else none)) else (bif Nat.ble pc 80 then (bif Nat.beq pc 77 then some (.getfield 21, 3, 2, 0, []) else bif Nat.beq pc 80 then some (.iload 4, 4, 0, 0, []) else none) else (bif Nat.beq pc 82 then some (.aload_n 3, 3, 0, 0, []) else bif Nat.beq pc 83 then some (.aastore, 0, 0, 0, []) else bif Nat.beq pc 84 then some (.aload_n 0, 0, 0, 0, []) else none)))) else (bif Nat.ble pc 94 then (bif Nat.ble pc 90 then (bif Nat.ble pc 88 then (bif Nat.beq pc 85 then some (.getfield 9, 3, 0, 0, []) else bif Nat.beq pc 88 then some (.iload_n 1, 1, 0, 0, []) else none) else (bif Nat.beq pc 89 then some (.dup2, 0, 0, 0, []) else bif Nat.beq pc 90 then some (.iaload, 20, 0, 0, []) else none)) else (bif Nat.ble pc 92 then (bif Nat.beq pc 91 then some (.iconst 1, 0, 0, 1, []) else bif Nat.beq pc 92 then some (.iadd, 0, 0, 0, []) else none) else (bif Nat.beq pc 93 then some (.iastore, 0, 0, 0, []) else bif Nat.beq pc 94 then some (.aload_n 0, 0, 0, 0, []) else none))) else (bif Nat.ble pc 100 then (bif Nat.ble pc 96 then (bif Nat.beq pc 95 then some (.dup, 0, 0, 0, []) else bif Nat.beq pc 96 then some (.getfield 41, 3, 4, 0, []) else none) else (bif Nat.beq pc 99 then some (.iconst 1, 0, 0, 1, []) else bif Nat.beq pc 100 then some (.iadd, 0, 0, 0, []) else none)) else (bif Nat.ble pc 104 then (bif Nat.beq pc 101 then some (.putfield 41, 3, 4, 0, []) else bif Nat.beq pc 104 then some (.aload_n 0, 0, 0, 0, []) else none) else (bif Nat.beq pc 105 then some (.iload_n 1, 1, 0, 0, []) else bif Nat.beq pc 106 then some (.invokevirtual 45, 55, 1, 0, []) else bif Nat.beq pc 109 then some (.ireturn, 0, 0, 0, []) else none)))))
def p76 (pc : Nat) : Option PE := bif Nat.ble pc 14 then (bif Nat.ble pc 7 then (bif Nat.ble pc 1 then (bif Nat.beq pc 0 then some (.aload_n 0, 0, 0, 0, []) else bif Nat.beq pc 1 then some (.getfield 25, 9, 2, 0, []) else none) else (bif Nat.beq pc 4 then some (.invokevirtual 205, 77, 0, 0, []) else bif Nat.beq pc 7 then some (.iconst 1, 0, 0, 1, []) else none)) else (bif Nat.ble pc 9 then (bif Nat.beq pc 8 then some (.istore_n 2, 2, 0, 0, []) else bif Nat.beq pc 9 then some (.iload_n 2, 2, 0, 0, []) else none) else (bif Nat.beq pc 10 then some (.iload_n 1, 1, 0, 0, []) else bif Nat.beq pc 11 then some (.if_icmp .gt 25, 36, 0, 0, []) else bif Nat.beq pc 14 then some (.iload_n 2, 2, 0, 0, []) else none))) else (bif Nat.ble pc 25 then (bif Nat.ble pc 16 then (bif Nat.beq pc 15 then some (.aload_n 0, 0, 0, 0, []) else bif Nat.beq pc 16 then some (.getfield 12, 9, 0, 0, []) else none) else (bif Nat.beq pc 19 then some (.getfield 200, 5, 4, 0, []) else bif Nat.beq pc 22 then some (.if_icmp .gt 14, 36, 0, 0, []) else bif Nat.beq pc 25 then some (.aload_n 0, 0, 0, 0, []) else none)) else (bif Nat.ble pc 27 then (bif Nat.beq pc 26 then some (.iload_n 2, 2, 0, 0, []) else bif Nat.beq pc 27 then some (.invokevirtual 208, 78, 1, 0, []) else none) else (bif Nat.beq pc 30 then some (.iinc 2 1, 2, 0, 1, []) else bif Nat.beq pc 33 then some (.goto (-24), 9, 0, 0, []) else bif Nat.beq pc 36 then some (.return_, 0, 0, 0, []) else none)))
def p77 (pc : Nat) : Option PE := bif Nat.ble pc 1 then (bif Nat.beq pc 0 then some (.aload_n 0, 0, 0, 0, []) else bif Nat.beq pc 1 then some (.getfield 9, 1, 0, 0, []) else none) else (bif Nat.beq pc 4 then some (.iconst 0, 0, 0, 0, []) else bif Nat.beq pc 5 then some (.invokestatic 15, 10, 2, 0, []) else bif Nat.beq pc 8 then some (.return_, 0, 0, 0, []) else none)
def p78 (pc : Nat) : Option PE := bif Nat.ble pc 21 then (bif Nat.ble pc 9 then (bif Nat.ble pc 4 then (bif Nat.beq pc 0 then some (.aload_n 0, 0, 0, 0, []) else bif Nat.beq pc 1 then some (.getfield 31, 9, 3, 0, []) else bif Nat.beq pc 4 then some (.aload_n 0, 0, 0, 0, []) else none) else (bif Nat.beq pc 5 then some (.getfield 12, 9, 0, 0, []) else bif Nat.beq pc 8 then some (.iload_n 1, 1, 0, 0, []) else bif Nat.beq pc 9 then some (.invokevirtual 211, 79, 2, 0, []) else none)) else (bif Nat.ble pc 16 then (bif Nat.beq pc 12 then some (.aload_n 0, 0, 0, 0, []) else bif Nat.beq pc 13 then some (.getfield 25, 9, 2, 0, []) else bif Nat.beq pc 16 then some (.aload_n 0, 0, 0, 0, []) else none) else (bif Nat.beq pc 17 then some (.getfield 12, 9, 0, 0, []) else bif Nat.beq pc 20 then some (.iload_n 1, 1, 0, 0, []) else bif Nat.beq pc 21 then some (.iconst 0, 0, 0, 0, []) else none))) else (bif Nat.ble pc 31 then (bif Nat.ble pc 26 then (bif Nat.beq pc 22 then some (.invokevirtual 215, 80, 2, 0, []) else bif Nat.beq pc 25 then some (.aload_n 0, 0, 0, 0, []) else bif Nat.beq pc 26 then some (.getfield 12, 9, 0, 0, []) else none) else (bif Nat.beq pc 29 then some (.iload_n 1, 1, 0, 0, []) else bif Nat.beq pc 30 then some (.iconst 2, 0, 0, 2, []) else bif Nat.beq pc 31 then some (.invokevirtual 215, 80, 2, 0, []) else none)) else (bif Nat.ble pc 38 then (bif Nat.beq pc 34 then some (.aload_n 0, 0, 0, 0, []) else bif Nat.beq pc 35 then some (.getfield 31, 9, 3, 0, []) else bif Nat.beq pc 38 then some (.iconst 0, 0, 0, 0, []) else none) else (bif Nat.beq pc 39 then some (.invokevirtual 219, 86, 1, 0, []) else bif Nat.beq pc 42 then some (.invokevirtual 163, 58, 3, 0, []) else bif Nat.beq pc 45 then some (.return_, 0, 0, 0, []) else none)))
def p79 (pc : Nat) : Option PE := bif Nat.ble pc 53 then (bif Nat.ble pc 25 then (bif Nat.ble pc 12 then (bif Nat.ble pc 5 then (bif Nat.ble pc 1 then (bif Nat.beq pc 0 then some (.aload_n 0, 0, 0, 0, []) else bif Nat.beq pc 1 then some (.getfield 32, 3, 3, 0, []) else none) else (bif Nat.beq pc 4 then some (.iconst 0, 0, 0, 0, []) else bif Nat.beq pc 5 then some (.aload_n 1, 1, 0, 0, []) else none)) else (bif Nat.ble pc 7 then (bif Nat.beq pc 6 then some (.iload_n 2, 2, 0, 0, []) else bif Nat.beq pc 7 then some (.iconst 4, 0, 0, 4, []) else none) else (bif Nat.beq pc 8 then some (.invokevirtual 49, 80, 2, 0, []) else bif Nat.beq pc 11 then some (.iastore, 0, 0, 0, []) else bif Nat.beq pc 12 then some (.aload_n 0, 0, 0, 0, []) else none))) else (bif Nat.ble pc 18 then (bif Nat.ble pc 16 then (bif Nat.beq pc 13 then some (.getfield 32, 3, 3, 0, []) else bif Nat.beq pc 16 then some (.iconst 1, 0, 0, 1, []) else none) else (bif Nat.beq pc 17 then some (.aload_n 1, 1, 0, 0, []) else bif Nat.beq pc 18 then some (.iload_n 2, 2, 0, 0, []) else none)) else (bif Nat.ble pc 20 then (bif Nat.beq pc 19 then some (.iconst 5, 0, 0, 5, []) else bif Nat.beq pc 20 then some (.invokevirtual 49, 80, 2, 0, []) else none) else (bif Nat.beq pc 23 then some (.iastore, 0, 0, 0, []) else bif Nat.beq pc 24 then some (.aload_n 0, 0, 0, 0, []) else bif Nat.beq pc 25 then some (.getfield 32, 3, 3, 0, []) else none)))) else (bif Nat.ble pc 38 then (bif Nat.ble pc 31 then (bif Nat.ble pc 29 then (bif Nat.beq pc 28 then some (.iconst 2, 0, 0, 2, []) else bif Nat.beq pc 29 then some (.aload_n 1, 1, 0, 0, []) else none) else (bif Nat.beq pc 30 then some (.iload_n 2, 2, 0, 0, []) else bif Nat.beq pc 31 then some (.iconst 0, 0, 0, 0, []) else none)) else (bif Nat.ble pc 35 then (bif Nat.beq pc 32 then some (.invokevirtual 49, 80, 2, 0, []) else bif Nat.beq pc 35 then some (.iastore, 0, 0, 0, []) else none) else (bif Nat.beq pc 36 then some (.aload_n 1, 1, 0, 0, []) else bif Nat.beq pc 37 then some (.iload_n 2, 2, 0, 0, []) else bif Nat.beq pc 38 then some (.iconst 2, 0, 0, 2, []) else none))) else (bif Nat.ble pc 44 then (bif Nat.ble pc 42 then (bif Nat.beq pc 39 then some (.invokevirtual 49, 80, 2, 0, []) else bif Nat.beq pc 42 then some (.istore_n 3, 3, 0, 0, []) else none) else (bif Nat.beq pc 43 then some (.aload_n 1, 1, 0, 0, []) else bif Nat.beq pc 44 then some (.iload_n 2, 2, 0, 0, []) else none)) else (bif Nat.ble pc 46 then (bif Nat.beq pc 45 then some (.iconst 3, 0, 0, 3, []) else bif Nat.beq pc 46 then some (.invokevirtual 49, 80, 2, 0, []) else none) else (bif Nat.beq pc 49 then some (.istore 4, 4, 0, 0, []) else bif Nat.beq pc 51 then some (.iload 4, 4, 0, 0, []) else bif Nat.beq pc 53 then some (.aload_n 0, 0, 0, 0, []) else none))))) else (bif Nat.ble pc 83 then (bif Nat.ble pc 67 then (bif Nat.ble pc 61 then (bif Nat.ble pc 55 then (bif Nat.beq pc 54 then some (.iload_n 3, 3, 0, 0, []) else bif Nat.beq pc 55 then some (.invokevirtual 45, 55, 1, 0, []) else none) else (bif Nat.beq pc 58 then some (.if_icmp .ge 62, 120, 0, 0, []) else bif Nat.beq pc 61 then some (.iload_n 3, 3, 0, 0, []) else none)) else (bif Nat.ble pc 63 then (bif Nat.beq pc 62 then some (.iconst 3, 0, 0, 3, []) else bif Nat.beq pc 63 then some (.imul, 0, 0, 0, []) else none) else (bif Nat.beq pc 64 then some (.iload 4, 4, 0, 0, []) else bif Nat.beq pc 66 then some (.iadd, 0, 0, 0, []) else bif Nat.beq pc 67 then some (.iconst 1, 0, 0, 1, []) else none))) else (bif Nat.ble pc 73 then (bif Nat.ble pc 69 then (bif Nat.beq pc 68 then some (.isub, 0, 0, 0, []) else bif Nat.beq pc 69 then some (.istore 5, 5, 0, 0, []) else none) else (bif Nat.beq pc 71 then some (.iload 5, 5, 0, 0, []) else bif Nat.beq pc 73 then some (.ifCond .lt 41, 114, 0, 0, []) else none)) else (bif Nat.ble pc 78 then (bif Nat.beq pc 76 then some (.iload 5, 5, 0, 0, []) else bif Nat.beq pc 78 then some (.aload_n 0, 0, 0, 0, []) else none) else (bif Nat.beq pc 79 then some (.getfield 17, 3, 1, 0, []) else bif Nat.beq pc 82 then some (.arraylength, 0, 0, 0, []) else bif Nat.beq pc 83 then some (.if_icmp .ge 31, 114, 0, 0, []) else none)))) else (bif Nat.ble pc 101 then (bif Nat.ble pc 92 then (bif Nat.ble pc 88 then (bif Nat.beq pc 86 then some (.iload 5, 5, 0, 0, []) else bif Nat.beq pc 88 then some (.aload_n 0, 0, 0, 0, []) else none) else (bif Nat.beq pc 89 then some (.getfield 21, 3, 2, 0, []) else bif Nat.beq pc 92 then some (.arraylength, 0, 0, 0, []) else none)) else (bif Nat.ble pc 96 then (bif Nat.beq pc 93 then some (.if_icmp .ge 21, 114, 0, 0, []) else bif Nat.beq pc 96 then some (.aload_n 0, 0, 0, 0, []) else none) else (bif Nat.beq pc 97 then some (.aload_n 0, 0, 0, 0, []) else bif Nat.beq pc 98 then some (.getfield 17, 3, 1, 0, []) else bif Nat.beq pc 101 then some (.iload 5, 5, 0, 0, []) else none))) else (bif Nat.ble pc 108 then (bif Nat.ble pc 104 then (bif Nat.beq pc 103 then some (.aaload, 0, 0, 0, []) else bif Nat.beq pc 104 then some (.aload_n 0, 0, 0, 0, []) else none) else (bif Nat.beq pc 105 then some (.getfield 21, 3, 2, 0, []) else bif Nat.beq pc 108 then some (.iload 5, 5, 0, 0, []) else none)) else (bif Nat.ble pc 111 then (bif Nat.beq pc 110 then some (.aaload, 0, 0, 0, []) else bif Nat.beq pc 111 then some (.invokevirtual 55, 82, 2, 0, []) else none) else (bif Nat.beq pc 114 then some (.iinc 4 1, 4, 0, 1, []) else bif Nat.beq pc 117 then some (.goto (-66), 51, 0, 0, []) else bif Nat.beq pc 120 then some (.return_, 0, 0, 0, []) else none)))))
def p80 (pc : Nat) : Option PE := bif Nat.ble pc 19 then (bif Nat.ble pc 9 then (bif Nat.ble pc 2 then (bif Nat.beq pc 0 then some (.aload_n 0, 0, 0, 0, []) else bif Nat.beq pc 1 then some (.iload_n 1, 1, 0, 0, []) else bif Nat.beq pc 2 then some (.invokevirtual 35, 81, 1, 0, []) else none) else (bif Nat.beq pc 5 then some (.ifCond .eq 12, 17, 0, 0, []) else bif Nat.beq pc 8 then some (.iload_n 1, 1, 0, 0, []) else bif Nat.beq pc 9 then some (.bipush 6, 0, 0, 6, []) else none)) else (bif Nat.ble pc 13 then (bif Nat.beq pc 11 then some (.imul, 0, 0, 0, []) else bif Nat.beq pc 12 then some (.iload_n 2, 2, 0, 0, []) else bif Nat.beq pc 13 then some (.iadd, 0, 0, 0, []) else none) else (bif Nat.ble pc 17 then (bif Nat.beq pc 14 then some (.goto 4, 18, 0, 0, []) else bif Nat.beq pc 17 then some (.iconst 0, 0, 0, 0, []) else none) else (bif Nat.beq pc 18 then some (.istore_n 3, 3, 0, 0, []) else bif Nat.beq pc 19 then some (.iload_n 3, 3, 0, 0, []) else none)))) else (bif Nat.ble pc 29 then (bif Nat.ble pc 24 then (bif Nat.beq pc 20 then some (.ifCond .lt 21, 41, 0, 0, []) else bif Nat.beq pc 23 then some (.iload_n 3, 3, 0, 0, []) else bif Nat.beq pc 24 then some (.aload_n 0, 0, 0, 0, []) else none) else (bif Nat.beq pc 25 then some (.getfield 9, 5, 0, 0, []) else bif Nat.beq pc 28 then some (.arraylength, 0, 0, 0, []) else bif Nat.beq pc 29 then some (.if_icmp .ge 12, 41, 0, 0, []) else none)) else (bif Nat.ble pc 36 then (bif Nat.beq pc 32 then some (.aload_n 0, 0, 0, 0, []) else bif Nat.beq pc 33 then some (.getfield 9, 5, 0, 0, []) else bif Nat.beq pc 36 then some (.iload_n 3, 3, 0, 0, []) else none) else (bif Nat.ble pc 38 then (bif Nat.beq pc 37 then some (.iaload, 20, 0, 0, []) else bif Nat.beq pc 38 then some (.goto 4, 42, 0, 0, []) else none) else (bif Nat.beq pc 41 then some (.iconst 0, 0, 0, 0, []) else bif Nat.beq pc 42 then some (.ireturn, 0, 0, 0, []) else none))))
def p81 (pc : Nat) : Option PE := bif Nat.ble pc 2 then (bif Nat.beq pc 0 then some (.iload_n 1, 1, 0, 0, []) else bif Nat.beq pc 1 then some (.iconst 1, 0, 0, 1, []) else bif Nat.beq pc 2 then some (.aload_n 0, 0, 0, 0, []) else none) else (bif Nat.beq pc 3 then some (.getfield 27, 5, 4, 0, []) else bif Nat.beq pc 6 then some (.invokestatic 31, 12, 3, 0, []) else bif Nat.beq pc 9 then some (.ireturn, 0, 0, 0, []) else none)
def p82 (pc : Nat) : Option PE := bif Nat.ble pc 20 then (bif Nat.ble pc 9 then (bif Nat.ble pc 4 then (bif Nat.beq pc 0 then some (.aload_n 1, 1, 0, 0, []) else bif Nat.beq pc 1 then some (.ifnull 7, 8, 0, 0, []) else bif Nat.beq pc 4 then some (.aload_n 2, 2, 0, 0, []) else none) else (bif Nat.beq pc 5 then some (.ifnonnull 4, 9, 0, 0, []) else bif Nat.beq pc 8 then some (.return_, 0, 0, 0, []) else bif Nat.beq pc 9 then some (.aload_n 1, 1, 0, 0, []) else none)) else (bif Nat.ble pc 14 then (bif Nat.beq pc 10 then some (.aload_n 0, 0, 0, 0, []) else bif Nat.beq pc 11 then some (.getfield 32, 3, 3, 0, []) else bif Nat.beq pc 14 then some (.invokevirtual 59, 83, 1, 0, []) else none) else (bif Nat.ble pc 18 then (bif Nat.beq pc 17 then some (.istore_n 3, 3, 0, 0, []) else bif Nat.beq pc 18 then some (.aload_n 2, 2, 0, 0, []) else none) else (bif Nat.beq pc 19 then some (.aload_n 0, 0, 0, 0, []) else bif Nat.beq pc 20 then some (.getfield 32, 3, 3, 0, []) else none)))) else (bif Nat.ble pc 33 then (bif Nat.ble pc 28 then (bif Nat.beq pc 23 then some (.invokevirtual 59, 83, 1, 0, []) else bif Nat.beq pc 26 then some (.istore 4, 4, 0, 0, []) else bif Nat.beq pc 28 then some (.aload_n 0, 0, 0, 0, []) else none) else (bif Nat.beq pc 29 then some (.getfield 32, 3, 3, 0, []) else bif Nat.beq pc 32 then some (.iconst 0, 0, 0, 0, []) else bif Nat.beq pc 33 then some (.iload_n 3, 3, 0, 0, []) else none)) else (bif Nat.ble pc 36 then (bif Nat.beq pc 34 then some (.iastore, 0, 0, 0, []) else bif Nat.beq pc 35 then some (.aload_n 0, 0, 0, 0, []) else bif Nat.beq pc 36 then some (.getfield 32, 3, 3, 0, []) else none) else (bif Nat.ble pc 40 then (bif Nat.beq pc 39 then some (.iconst 1, 0, 0, 1, []) else bif Nat.beq pc 40 then some (.iload 4, 4, 0, 0, []) else none) else (bif Nat.beq pc 42 then some (.iastore, 0, 0, 0, []) else bif Nat.beq pc 43 then some (.return_, 0, 0, 0, []) else none))))
def p83 (pc : Nat) : Option PE := bif Nat.ble pc 96 then (bif Nat.ble pc 41 then (bif Nat.ble pc 18 then (bif Nat.ble pc 5 then (bif Nat.ble pc 2 then (bif Nat.beq pc 0 then some (.iconst 0, 0, 0, 0, []) else bif Nat.beq pc 1 then some (.istore_n 2, 2, 0, 0, []) else bif Nat.beq pc 2 then some (.iconst 0, 0, 0, 0, []) else none) else (bif Nat.beq pc 3 then some (.istore_n 3, 3, 0, 0, []) else bif Nat.beq pc 4 then some (.iload_n 3, 3, 0, 0, []) else bif Nat.beq pc 5 then some (.aload_n 0, 0, 0, 0, []) else none)) else (bif Nat.ble pc 10 then (bif Nat.beq pc 6 then some (.getfield 7, 4, 0, 0, []) else bif Nat.beq pc 9 then some (.arraylength, 0, 0, 0, []) else bif Nat.beq pc 10 then some (.if_icmp .ge 159, 169, 0, 0, []) else none) else (bif Nat.ble pc 14 then (bif Nat.beq pc 13 then some (.aload_n 0, 0, 0, 0, []) else bif Nat.beq pc 14 then some (.getfield 7, 4, 0, 0, []) else none) else (bif Nat.beq pc 17 then some (.iload_n 3, 3, 0, 0, []) else bif Nat.beq pc 18 then some (.iaload, 20, 0, 0, []) else none)))) else (bif Nat.ble pc 28 then (bif Nat.ble pc 23 then (bif Nat.beq pc 19 then some (.istore 4, 4, 0, 0, []) else bif Nat.beq pc 21 then some (.iload 4, 4, 0, 0, []) else bif Nat.beq pc 23 then some (.ifCond .lt 49, 72, 0, 0, []) else none) else (bif Nat.beq pc 26 then some (.iload_n 2, 2, 0, 0, []) else bif Nat.beq pc 27 then some (.aload_n 0, 0, 0, 0, []) else bif Nat.beq pc 28 then some (.getfield 13, 4, 1, 0, []) else none)) else (bif Nat.ble pc 35 then (bif Nat.beq pc 31 then some (.arraylength, 0, 0, 0, []) else bif Nat.beq pc 32 then some (.if_icmp .lt 5, 37, 0, 0, []) else bif Nat.beq pc 35 then some (.iconst 0, 0, 0, 0, []) else none) else (bif Nat.ble pc 37 then (bif Nat.beq pc 36 then some (.ireturn, 0, 0, 0, []) else bif Nat.beq pc 37 then some (.aload_n 0, 0, 0, 0, []) else none) else (bif Nat.beq pc 38 then some (.getfield 13, 4, 1, 0, []) else bif Nat.beq pc 41 then some (.iload_n 2, 2, 0, 0, []) else none))))) else (bif Nat.ble pc 69 then (bif Nat.ble pc 55 then (bif Nat.ble pc 47 then (bif Nat.beq pc 42 then some (.iload 4, 4, 0, 0, []) else bif Nat.beq pc 44 then some (.sipush 10000, 0, 0, 10000, []) else bif Nat.beq pc 47 then some (.if_icmp .ge 8, 55, 0, 0, []) else none) else (bif Nat.beq pc 50 then some (.iload 4, 4, 0, 0, []) else bif Nat.beq pc 52 then some (.goto 13, 65, 0, 0, []) else bif Nat.beq pc 55 then some (.aload_n 1, 1, 0, 0, []) else none)) else (bif Nat.ble pc 61 then (bif Nat.beq pc 56 then some (.iload 4, 4, 0, 0, []) else bif Nat.beq pc 58 then some (.sipush 10000, 0, 0, 10000, []) else bif Nat.beq pc 61 then some (.isub, 0, 0, 0, []) else none) else (bif Nat.ble pc 65 then (bif Nat.beq pc 62 then some (.invokestatic 16, 84, 2, 0, []) else bif Nat.beq pc 65 then some (.iastore, 0, 0, 0, []) else none) else (bif Nat.beq pc 66 then some (.iinc 2 1, 2, 0, 1, []) else bif Nat.beq pc 69 then some (.goto 94, 163, 0, 0, []) else none)))) else (bif Nat.ble pc 85 then (bif Nat.ble pc 77 then (bif Nat.beq pc 72 then some (.iload 4, 4, 0, 0, []) else bif Nat.beq pc 74 then some (.sipush (-1000), 0, 0, -1000, []) else bif Nat.beq pc 77 then some (.if_icmp .ne 39, 116, 0, 0, []) else none) else (bif Nat.ble pc 81 then (bif Nat.beq pc 80 then some (.iload_n 2, 2, 0, 0, []) else bif Nat.beq pc 81 then some (.iconst 1, 0, 0, 1, []) else none) else (bif Nat.beq pc 82 then some (.if_icmp .lt 12, 94, 0, 0, []) else bif Nat.beq pc 85 then some (.iload_n 2, 2, 0, 0, []) else none))) else (bif Nat.ble pc 90 then (bif Nat.beq pc 86 then some (.aload_n 0, 0, 0, 0, []) else bif Nat.beq pc 87 then some (.getfield 13, 4, 1, 0, []) else bif Nat.beq pc 90 then some (.arraylength, 0, 0, 0, []) else none) else (bif Nat.ble pc 94 then (bif Nat.beq pc 91 then some (.if_icmp .le 5, 96, 0, 0, []) else bif Nat.beq pc 94 then some (.iconst 0, 0, 0, 0, []) else none) else (bif Nat.beq pc 95 then some (.ireturn, 0, 0, 0, []) else bif Nat.beq pc 96 then some (.aload_n 0, 0, 0, 0, []) else none)))))) else (bif Nat.ble pc 139 then (bif Nat.ble pc 113 then (bif Nat.ble pc 104 then (bif Nat.ble pc 101 then (bif Nat.beq pc 97 then some (.getfield 13, 4, 1, 0, []) else bif Nat.beq pc 100 then some (.iload_n 2, 2, 0, 0, []) else bif Nat.beq pc 101 then some (.iconst 1, 0, 0, 1, []) else none) else (bif Nat.beq pc 102 then some (.isub, 0, 0, 0, []) else bif Nat.beq pc 103 then some (.aload_n 0, 0, 0, 0, []) else bif Nat.beq pc 104 then some (.getfield 13, 4, 1, 0, []) else none)) else (bif Nat.ble pc 109 then (bif Nat.beq pc 107 then some (.iload_n 2, 2, 0, 0, []) else bif Nat.beq pc 108 then some (.iconst 1, 0, 0, 1, []) else bif Nat.beq pc 109 then some (.isub, 0, 0, 0, []) else none) else (bif Nat.ble pc 111 then (bif Nat.beq pc 110 then some (.iaload, 20, 0, 0, []) else bif Nat.beq pc 111 then some (.ineg, 0, 0, 0, []) else none) else (bif Nat.beq pc 112 then some (.iastore, 0, 0, 0, []) else bif Nat.beq pc 113 then some (.goto 50, 163, 0, 0, []) else none)))) else (bif Nat.ble pc 126 then (bif Nat.ble pc 118 then (bif Nat.beq pc 116 then some (.iload_n 2, 2, 0, 0, []) else bif Nat.beq pc 117 then some (.iconst 2, 0, 0, 2, []) else bif Nat.beq pc 118 then some (.if_icmp .lt 12, 130, 0, 0, []) else none) else (bif Nat.ble pc 122 then (bif Nat.beq pc 121 then some (.iload_n 2, 2, 0, 0, []) else bif Nat.beq pc 122 then some (.aload_n 0, 0, 0, 0, []) else none) else (bif Nat.beq pc 123 then some (.getfield 13, 4, 1, 0, []) else bif Nat.beq pc 126 then some (.arraylength, 0, 0, 0, []) else none))) else (bif Nat.ble pc 131 then (bif Nat.beq pc 127 then some (.if_icmp .le 5, 132, 0, 0, []) else bif Nat.beq pc 130 then some (.iconst 0, 0, 0, 0, []) else bif Nat.beq pc 131 then some (.ireturn, 0, 0, 0, []) else none) else (bif Nat.ble pc 135 then (bif Nat.beq pc 132 then some (.iinc 2 (-1), 2, 0, -1, []) else bif Nat.beq pc 135 then some (.aload_n 0, 0, 0, 0, []) else none) else (bif Nat.beq pc 136 then some (.getfield 13, 4, 1, 0, []) else bif Nat.beq pc 139 then some (.iload_n 2, 2, 0, 0, []) else none))))) else (bif Nat.ble pc 157 then (bif Nat.ble pc 146 then (bif Nat.ble pc 142 then (bif Nat.beq pc 140 then some (.iconst 1, 0, 0, 1, []) else bif Nat.beq pc 141 then some (.isub, 0, 0, 0, []) else bif Nat.beq pc 142 then some (.iload 4, 4, 0, 0, []) else none) else (bif Nat.beq pc 144 then some (.ineg, 0, 0, 0, []) else bif Nat.beq pc 145 then some (.aload_n 0, 0, 0, 0, []) else bif Nat.beq pc 146 then some (.getfield 13, 4, 1, 0, []) else none)) else (bif Nat.ble pc 151 then (bif Nat.beq pc 149 then some (.iload_n 2, 2, 0, 0, []) else bif Nat.beq pc 150 then some (.iconst 1, 0, 0, 1, []) else bif Nat.beq pc 151 then some (.isub, 0, 0, 0, []) else none) else (bif Nat.ble pc 153 then (bif Nat.beq pc 152 then some (.iaload, 20, 0, 0, []) else bif Nat.beq pc 153 then some (.aload_n 0, 0, 0, 0, []) else none) else (bif Nat.beq pc 154 then some (.getfield 13, 4, 1, 0, []) else bif Nat.beq pc 157 then some (.iload_n 2, 2, 0, 0, []) else none)))) else (bif Nat.ble pc 170 then (bif Nat.ble pc 162 then (bif Nat.beq pc 158 then some (.iaload, 20, 0, 0, []) else bif Nat.beq pc 159 then some (.invokestatic 20, 85, 3, 0, []) else bif Nat.beq pc 162 then some (.iastore, 0, 0, 0, []) else none) else (bif Nat.ble pc 166 then (bif Nat.beq pc 163 then some (.iinc 3 1, 3, 0, 1, []) else bif Nat.beq pc 166 then some (.goto (-162), 4, 0, 0, []) else none) else (bif Nat.beq pc 169 then some (.iload_n 2, 2, 0, 0, []) else bif Nat.beq pc 170 then some (.ifCond .le 12, 182, 0, 0, []) else none))) else (bif Nat.ble pc 177 then (bif Nat.beq pc 173 then some (.aload_n 0, 0, 0, 0, []) else bif Nat.beq pc 174 then some (.getfield 13, 4, 1, 0, []) else bif Nat.beq pc 177 then some (.iconst 0, 0, 0, 0, []) else none) else (bif Nat.ble pc 179 then (bif Nat.beq pc 178 then some (.iaload, 20, 0, 0, []) else bif Nat.beq pc 179 then some (.goto 4, 183, 0, 0, []) else none) else (bif Nat.beq pc 182 then some (.iconst 0, 0, 0, 0, []) else bif Nat.beq pc 183 then some (.ireturn, 0, 0, 0, []) else none))))))
def p84 (pc : Nat) : Option PE := bif Nat.ble pc 7 then (bif Nat.ble pc 4 then (bif Nat.beq pc 0 then some (.iload_n 1, 1, 0, 0, []) else bif Nat.beq pc 1 then some (.ifCond .lt 15, 16, 0, 0, []) else bif Nat.beq pc 4 then some (.iload_n 1, 1, 0, 0, []) else none) else (bif Nat.beq pc 5 then some (.aload_n 0, 0, 0, 0, []) else bif Nat.beq pc 6 then some (.arraylength, 0, 0, 0, []) else bif Nat.beq pc 7 then some (.if_icmp .ge 9, 16, 0, 0, []) else none)) else (bif Nat.ble pc 12 then (bif Nat.beq pc 10 then some (.aload_n 0, 0, 0, 0, []) else bif Nat.beq pc 11 then some (.iload_n 1, 1, 0, 0, []) else bif Nat.beq pc 12 then some (.iaload, 20, 0, 0, []) else none) else (bif Nat.beq pc 13 then some (.goto 4, 17, 0, 0, []) else bif Nat.beq pc 16 then some (.iconst 0, 0, 0, 0, []) else bif Nat.beq pc 17 then some (.ireturn, 0, 0, 0, []) else none))
def p85 (pc : Nat) : Option PE := bif Nat.ble pc 144 then (bif Nat.ble pc 125 then (bif Nat.ble pc 119 then (bif Nat.ble pc 116 then (bif Nat.beq pc 0 then some (.iload_n 0, 0, 0, 0, []) else bif Nat.beq pc 1 then some (.tableswitch 173 37 61 #[139, 173, 173, 173, 173, 123, 115, 173, 119, 173, 127, 173, 173, 173, 173, 173, 173, 173, 173, 173, 173, 173, 173, 151, 162], 174, 0, 37, [140, 174, 174, 174, 174, 124, 116, 174, 120, 174, 128, 174, 174, 174, 174, 174, 174, 174, 174, 174, 174, 174, 174, 152, 163]) else bif Nat.beq pc 116 then some (.iload_n 1, 1, 0, 0, []) else none) else (bif Nat.beq pc 117 then some (.iload_n 2, 2, 0, 0, []) else bif Nat.beq pc 118 then some (.iadd, 0, 0, 0, []) else bif Nat.beq pc 119 then some (.ireturn, 0, 0, 0, []) else none)) else (bif Nat.ble pc 122 then (bif Nat.beq pc 120 then some (.iload_n 1, 1, 0, 0, []) else bif Nat.beq pc 121 then some (.iload_n 2, 2, 0, 0, []) else bif Nat.beq pc 122 then some (.isub, 0, 0, 0, []) else none) else (bif Nat.beq pc 123 then some (.ireturn, 0, 0, 0, []) else bif Nat.beq pc 124 then some (.iload_n 1, 1, 0, 0, []) else bif Nat.beq pc 125 then some (.iload_n 2, 2, 0, 0, []) else none))) else (bif Nat.ble pc 133 then (bif Nat.ble pc 128 then (bif Nat.beq pc 126 then some (.imul, 0, 0, 0, []) else bif Nat.beq pc 127 then some (.ireturn, 0, 0, 0, []) else bif Nat.beq pc 128 then some (.iload_n 2, 2, 0, 0, []) else none) else (bif Nat.beq pc 129 then some (.ifCond .ne 7, 136, 0, 0, []) else bif Nat.beq pc 132 then some (.iconst 0, 0, 0, 0, []) else bif Nat.beq pc 133 then some (.goto 6, 139, 0, 0, []) else none)) else (bif Nat.ble pc 138 then (bif Nat.beq pc 136 then some (.iload_n 1, 1, 0, 0, []) else bif Nat.beq pc 137 then some (.iload_n 2, 2, 0, 0, []) else bif Nat.beq pc 138 then some (.idiv, 0, 0, 0, []) else none) else (bif Nat.ble pc 140 then (bif Nat.beq pc 139 then some (.ireturn, 0, 0, 0, []) else bif Nat.beq pc 140 then some (.iload_n 2, 2, 0, 0, []) else none) else (bif Nat.beq pc 141 then some (.ifCond .ne 7, 148, 0, 0, []) else bif Nat.beq pc 144 then some (.iconst 0, 0, 0, 0, []) else none))))) else (bif Nat.ble pc 163 then (bif Nat.ble pc 152 then (bif Nat.ble pc 149 then (bif Nat.beq pc 145 then some (.goto 6, 151, 0, 0, []) else bif Nat.beq pc 148 then some (.iload_n 1, 1, 0, 0, []) else bif Nat.beq pc 149 then some (.iload_n 2, 2, 0, 0, []) else none) else (bif Nat.beq pc 150 then some (.irem, 0, 0, 0, []) else bif Nat.beq pc 151 then some (.ireturn, 0, 0, 0, []) else bif Nat.beq pc 152 then some (.iload_n 1, 1, 0, 0, []) else none)) else (bif Nat.ble pc 157 then (bif Nat.beq pc 153 then some (.iload_n 2, 2, 0, 0, []) else bif Nat.beq pc 154 then some (.if_icmp .ge 7, 161, 0, 0, []) else bif Nat.beq pc 157 then some (.iconst 1, 0, 0, 1, []) else none) else (bif Nat.ble pc 161 then (bif Nat.beq pc 158 then some (.goto 4, 162, 0, 0, []) else bif Nat.beq pc 161 then some (.iconst 0, 0, 0, 0, []) else none) else (bif Nat.beq pc 162 then some (.ireturn, 0, 0, 0, []) else bif Nat.beq pc 163 then some (.iload_n 1, 1, 0, 0, []) else none)))) else (bif Nat.ble pc 173 then (bif Nat.ble pc 168 then (bif Nat.beq pc 164 then some (.iload_n 2, 2, 0, 0, []) else bif Nat.beq pc 165 then some (.if_icmp .ne 7, 172, 0, 0, []) else bif Nat.beq pc 168 then some (.iconst 1, 0, 0, 1, []) else none) else (bif Nat.beq pc 169 then some (.goto 4, 173, 0, 0, []) else bif Nat.beq pc 172 then some (.iconst 0, 0, 0, 0, []) else bif Nat.beq pc 173 then some (.ireturn, 0, 0, 0, []) else none)) else (bif Nat.ble pc 176 then (bif Nat.beq pc 174 then some (.iload_n 1, 1, 0, 0, []) else bif Nat.beq pc 175 then some (.iload_n 2, 2, 0, 0, []) else bif Nat.beq pc 176 then some (.if_icmp .le 7, 183, 0, 0, []) else none) else (bif Nat.ble pc 180 then (bif Nat.beq pc 179 then some (.iconst 1, 0, 0, 1, []) else bif Nat.beq pc 180 then some (.goto 4, 184, 0, 0, []) else none) else (bif Nat.beq pc 183 then some (.iconst 0, 0, 0, 0, []) else bif Nat.beq pc 184 then some (.ireturn, 0, 0, 0, []) else none)))))
def p86 (pc : Nat) : Option PE := bif Nat.ble pc 10 then (bif Nat.ble pc 4 then (bif Nat.beq pc 0 then some (.iload_n 1, 1, 0, 0, []) else bif Nat.beq pc 1 then some (.ifCond .lt 21, 22, 0, 0, []) else bif Nat.beq pc 4 then some (.iload_n 1, 1, 0, 0, []) else none) else (bif Nat.ble pc 6 then (bif Nat.beq pc 5 then some (.aload_n 0, 0, 0, 0, []) else bif Nat.beq pc 6 then some (.getfield 32, 3, 3, 0, []) else none) else (bif Nat.beq pc 9 then some (.arraylength, 0, 0, 0, []) else bif Nat.beq pc 10 then some (.if_icmp .ge 12, 22, 0, 0, []) else none))) else (bif Nat.ble pc 17 then (bif Nat.beq pc 13 then some (.aload_n 0, 0, 0, 0, []) else bif Nat.beq pc 14 then some (.getfield 32, 3, 3, 0, []) else bif Nat.beq pc 17 then some (.iload_n 1, 1, 0, 0, []) else none) else (bif Nat.ble pc 19 then (bif Nat.beq pc 18 then some (.iaload, 20, 0, 0, []) else bif Nat.beq pc 19 then some (.goto 4, 23, 0, 0, []) else none) else (bif Nat.beq pc 22 then some (.iconst 0, 0, 0, 0, []) else bif Nat.beq pc 23 then some (.ireturn, 0, 0, 0, []) else none)))
def p87 (pc : Nat) : Option PE := bif Nat.ble pc 21 then (bif Nat.ble pc 9 then (bif Nat.ble pc 4 then (bif Nat.beq pc 0 then some (.iload_n 1, 1, 0, 0, []) else bif Nat.beq pc 1 then some (.invokestatic 47, 15, 1, 0, []) else bif Nat.beq pc 4 then some (.ifCond .eq 12, 16, 0, 0, []) else none) else (bif Nat.beq pc 7 then some (.iload_n 2, 2, 0, 0, []) else bif Nat.beq pc 8 then some (.iconst 0, 0, 0, 0, []) else bif Nat.beq pc 9 then some (.iconst 4, 0, 0, 4, []) else none)) else (bif Nat.ble pc 16 then (bif Nat.beq pc 10 then some (.invokestatic 39, 12, 3, 0, []) else bif Nat.beq pc 13 then some (.ifCond .ne 6, 19, 0, 0, []) else bif Nat.beq pc 16 then some (.ldc 94, 0, 0, -2000000000, []) else none) else (bif Nat.ble pc 19 then (bif Nat.beq pc 18 then some (.ireturn, 0, 0, 0, []) else bif Nat.beq pc 19 then some (.iload_n 2, 2, 0, 0, []) else none) else (bif Nat.beq pc 20 then some (.iconst 4, 0, 0, 4, []) else bif Nat.beq pc 21 then some (.if_icmp .ne 17, 38, 0, 0, []) else none)))) else (bif Nat.ble pc 35 then (bif Nat.ble pc 28 then (bif Nat.beq pc 24 then some (.aload_n 0, 0, 0, 0, []) else bif Nat.beq pc 25 then some (.getfield 28, 11, 2, 0, []) else bif Nat.beq pc 28 then some (.getfield 95, 9, 0, 0, []) else none) else (bif Nat.beq pc 31 then some (.iload_n 1, 1, 0, 0, []) else bif Nat.beq pc 32 then some (.invokevirtual 99, 48, 1, 0, []) else bif Nat.beq pc 35 then some (.goto 15, 50, 0, 0, []) else none)) else (bif Nat.ble pc 42 then (bif Nat.beq pc 38 then some (.aload_n 0, 0, 0, 0, []) else bif Nat.beq pc 39 then some (.getfield 28, 11, 2, 0, []) else bif Nat.beq pc 42 then some (.getfield 104, 9, 1, 0, []) else none) else (bif Nat.ble pc 46 then (bif Nat.beq pc 45 then some (.iload_n 1, 1, 0, 0, []) else bif Nat.beq pc 46 then some (.iload_n 2, 2, 0, 0, []) else none) else (bif Nat.beq pc 47 then some (.invokevirtual 108, 51, 2, 0, []) else bif Nat.beq pc 50 then some (.ireturn, 0, 0, 0, []) else none))))
def p88 (pc : Nat) : Option PE := bif Nat.ble pc 26 then (bif Nat.ble pc 11 then (bif Nat.ble pc 3 then (bif Nat.ble pc 1 then (bif Nat.beq pc 0 then some (.aload_n 0, 0, 0, 0, []) else bif Nat.beq pc 1 then some (.iload_n 1, 1, 0, 0, []) else none) else (bif Nat.beq pc 2 then some (.iload_n 2, 2, 0, 0, []) else bif Nat.beq pc 3 then some (.invokevirtual 114, 89, 2, 0, []) else none)) else (bif Nat.ble pc 9 then (bif Nat.beq pc 6 then some (.ifCond .eq 12, 18, 0, 0, []) else bif Nat.beq pc 9 then some (.iload_n 3, 3, 0, 0, []) else none) else (bif Nat.beq pc 10 then some (.iconst 0, 0, 0, 0, []) else bif Nat.beq pc 11 then some (.iconst 3, 0, 0, 3, []) else none))) else (bif Nat.ble pc 20 then (bif Nat.ble pc 15 then (bif Nat.beq pc 12 then some (.invokestatic 39, 12, 3, 0, []) else bif Nat.beq pc 15 then some (.ifCond .ne 6, 21, 0, 0, []) else none) else (bif Nat.beq pc 18 then some (.ldc 94, 0, 0, -2000000000, []) else bif Nat.beq pc 20 then some (.ireturn, 0, 0, 0, []) else none)) else (bif Nat.ble pc 22 then (bif Nat.beq pc 21 then some (.aload_n 0, 0, 0, 0, []) else bif Nat.beq pc 22 then some (.getfield 28, 11, 2, 0, []) else none) else (bif Nat.beq pc 25 then some (.iload_n 2, 2, 0, 0, []) else bif Nat.beq pc 26 then some (.ifCond .ne 7, 33, 0, 0, []) else none)))) else (bif Nat.ble pc 42 then (bif Nat.ble pc 34 then (bif Nat.ble pc 30 then (bif Nat.beq pc 29 then some (.iconst 0, 0, 0, 0, []) else bif Nat.beq pc 30 then some (.goto 15, 45, 0, 0, []) else none) else (bif Nat.beq pc 33 then some (.aload_n 0, 0, 0, 0, []) else bif Nat.beq pc 34 then some (.getfield 28, 11, 2, 0, []) else none)) else (bif Nat.ble pc 40 then (bif Nat.beq pc 37 then some (.getfield 95, 9, 0, 0, []) else bif Nat.beq pc 40 then some (.iload_n 1, 1, 0, 0, []) else none) else (bif Nat.beq pc 41 then some (.iload_n 2, 2, 0, 0, []) else bif Nat.beq pc 42 then some (.invokevirtual 118, 90, 2, 0, []) else none))) else (bif Nat.ble pc 52 then (bif Nat.ble pc 48 then (bif Nat.beq pc 45 then some (.invokevirtual 121, 76, 1, 0, []) else bif Nat.beq pc 48 then some (.aload_n 0, 0, 0, 0, []) else none) else (bif Nat.beq pc 49 then some (.getfield 28, 11, 2, 0, []) else bif Nat.beq pc 52 then some (.getfield 124, 9, 2, 0, []) else none)) else (bif Nat.ble pc 56 then (bif Nat.beq pc 55 then some (.iload_n 1, 1, 0, 0, []) else bif Nat.beq pc 56 then some (.iload_n 3, 3, 0, 0, []) else none) else (bif Nat.beq pc 57 then some (.invokevirtual 108, 51, 2, 0, []) else bif Nat.beq pc 60 then some (.ireturn, 0, 0, 0, []) else none))))
def p89 (pc : Nat) : Option PE := bif Nat.ble pc 13 then (bif Nat.ble pc 7 then (bif Nat.ble pc 1 then (bif Nat.beq pc 0 then some (.iload_n 1, 1, 0, 0, []) else bif Nat.beq pc 1 then some (.invokestatic 47, 15, 1, 0, []) else none) else (bif Nat.beq pc 4 then some (.ifCond .eq 26, 30, 0, 0, []) else bif Nat.beq pc 7 then some (.iload_n 2, 2, 0, 0, []) else none)) else (bif Nat.ble pc 9 then (bif Nat.beq pc 8 then some (.iconst 0, 0, 0, 0, []) else bif Nat.beq pc 9 then some (.aload_n 0, 0, 0, 0, []) else none) else (bif Nat.beq pc 10 then some (.getfield 28, 11, 2, 0, []) else bif Nat.beq pc 13 then some (.getfield 95, 9, 0, 0, []) else none))) else (bif Nat.ble pc 23 then (bif Nat.ble pc 17 then (bif Nat.beq pc 16 then some (.iload_n 1, 1, 0, 0, []) else bif Nat.beq pc 17 then some (.invokevirtual 99, 48, 1, 0, []) else none) else (bif Nat.beq pc 20 then some (.invokestatic 39, 12, 3, 0, []) else bif Nat.beq pc 23 then some (.ifCond .eq 7, 30, 0, 0, []) else none)) else (bif Nat.ble pc 27 then (bif Nat.beq pc 26 then some (.iconst 1, 0, 0, 1, []) else bif Nat.beq pc 27 then some (.goto 4, 31, 0, 0, []) else none) else (bif Nat.beq pc 30 then some (.iconst 0, 0, 0, 0, []) else bif Nat.beq pc 31 then some (.ireturn, 0, 0, 0, []) else none)))
def p90 (pc : Nat) : Option PE := bif Nat.ble pc 17 then (bif Nat.ble pc 7 then (bif Nat.ble pc 2 then (bif Nat.beq pc 0 then some (.iconst 1, 0, 0, 1, []) else bif Nat.beq pc 1 then some (.istore_n 3, 3, 0, 0, []) else bif Nat.beq pc 2 then some (.iload_n 3, 3, 0, 0, []) else none) else (bif Nat.beq pc 3 then some (.aload_n 0, 0, 0, 0, []) else bif Nat.beq pc 4 then some (.getfield 27, 5, 4, 0, []) else bif Nat.beq pc 7 then some (.if_icmp .gt 31, 38, 0, 0, []) else none)) else (bif Nat.ble pc 12 then (bif Nat.beq pc 10 then some (.aload_n 0, 0, 0, 0, []) else bif Nat.beq pc 11 then some (.iload_n 3, 3, 0, 0, []) else bif Nat.beq pc 12 then some (.iconst 0, 0, 0, 0, []) else none) else (bif Nat.beq pc 13 then some (.invokevirtual 47, 80, 2, 0, []) else bif Nat.beq pc 16 then some (.iload_n 1, 1, 0, 0, []) else bif Nat.beq pc 17 then some (.if_icmp .ne 15, 32, 0, 0, []) else none))) else (bif Nat.ble pc 27 then (bif Nat.ble pc 22 then (bif Nat.beq pc 20 then some (.aload_n 0, 0, 0, 0, []) else bif Nat.beq pc 21 then some (.iload_n 3, 3, 0, 0, []) else bif Nat.beq pc 22 then some (.iconst 1, 0, 0, 1, []) else none) else (bif Nat.beq pc 23 then some (.invokevirtual 47, 80, 2, 0, []) else bif Nat.beq pc 26 then some (.iload_n 2, 2, 0, 0, []) else bif Nat.beq pc 27 then some (.if_icmp .ne 5, 32, 0, 0, []) else none)) else (bif Nat.ble pc 32 then (bif Nat.beq pc 30 then some (.iload_n 3, 3, 0, 0, []) else bif Nat.beq pc 31 then some (.ireturn, 0, 0, 0, []) else bif Nat.beq pc 32 then some (.iinc 3 1, 3, 0, 1, []) else none) else (bif Nat.beq pc 35 then some (.goto (-33), 2, 0, 0, []) else bif Nat.beq pc 38 then some (.iconst (-1), 0, 0, -1, []) else bif Nat.beq pc 39 then some (.ireturn, 0, 0, 0, []) else none)))
def p91 (pc : Nat) : Option PE := bif Nat.ble pc 13 then (bif Nat.ble pc 6 then (bif Nat.ble pc 1 then (bif Nat.beq pc 0 then some (.aload_n 0, 0, 0, 0, []) else bif Nat.beq pc 1 then some (.iload_n 1, 1, 0, 0, []) else none) else (bif Nat.beq pc 2 then some (.iload_n 2, 2, 0, 0, []) else bif Nat.beq pc 3 then some (.invokevirtual 114, 89, 2, 0, []) else bif Nat.beq pc 6 then some (.ifCond .ne 5, 11, 0, 0, []) else none)) else (bif Nat.ble pc 10 then (bif Nat.beq pc 9 then some (.iconst (-1), 0, 0, -1, []) else bif Nat.beq pc 10 then some (.ireturn, 0, 0, 0, []) else none) else (bif Nat.beq pc 11 then some (.iload_n 2, 2, 0, 0, []) else bif Nat.beq pc 12 then some (.aload_n 0, 0, 0, 0, []) else bif Nat.beq pc 13 then some (.getfield 28, 11, 2, 0, []) else none))) else (bif Nat.ble pc 22 then (bif Nat.ble pc 19 then (bif Nat.beq pc 16 then some (.getfield 127, 9, 4, 0, []) else bif Nat.beq pc 19 then some (.iload_n 1, 1, 0, 0, []) else none) else (bif Nat.beq pc 20 then some (.iload_n 2, 2, 0, 0, []) else bif Nat.beq pc 21 then some (.aload_n 0, 0, 0, 0, []) else bif Nat.beq pc 22 then some (.getfield 28, 11, 2, 0, []) else none)) else (bif Nat.ble pc 28 then (bif Nat.beq pc 25 then some (.getfield 131, 9, 3, 0, []) else bif Nat.beq pc 28 then some (.getfield 135, 3, 4, 0, []) else none) else (bif Nat.beq pc 31 then some (.invokevirtual 141, 92, 3, 0, []) else bif Nat.beq pc 34 then some (.isub, 0, 0, 0, []) else bif Nat.beq pc 35 then some (.ireturn, 0, 0, 0, []) else none)))
def p92 (pc : Nat) : Option PE := bif Nat.ble pc 34 then (bif Nat.ble pc 16 then (bif Nat.ble pc 6 then (bif Nat.ble pc 1 then (bif Nat.beq pc 0 then some (.iconst 0, 0, 0, 0, []) else bif Nat.beq pc 1 then some (.istore 4, 4, 0, 0, []) else none) else (bif Nat.beq pc 3 then some (.iconst 0, 0, 0, 0, []) else bif Nat.beq pc 4 then some (.istore 5, 5, 0, 0, []) else bif Nat.beq pc 6 then some (.iload 5, 5, 0, 0, []) else none)) else (bif Nat.ble pc 9 then (bif Nat.beq pc 8 then some (.aload_n 0, 0, 0, 0, []) else bif Nat.beq pc 9 then some (.iload_n 1, 1, 0, 0, []) else none) else (bif Nat.beq pc 10 then some (.invokevirtual 31, 93, 1, 0, []) else bif Nat.beq pc 13 then some (.if_icmp .ge 62, 75, 0, 0, []) else bif Nat.beq pc 16 then some (.iload_n 1, 1, 0, 0, []) else none))) else (bif Nat.ble pc 22 then (bif Nat.ble pc 18 then (bif Nat.beq pc 17 then some (.iconst 4, 0, 0, 4, []) else bif Nat.beq pc 18 then some (.imul, 0, 0, 0, []) else none) else (bif Nat.beq pc 19 then some (.iload 5, 5, 0, 0, []) else bif Nat.beq pc 21 then some (.iadd, 0, 0, 0, []) else bif Nat.beq pc 22 then some (.istore 6, 6, 0, 0, []) else none)) else (bif Nat.ble pc 27 then (bif Nat.beq pc 24 then some (.aload_n 0, 0, 0, 0, []) else bif Nat.beq pc 25 then some (.iload 6, 6, 0, 0, []) else bif Nat.beq pc 27 then some (.iload_n 3, 3, 0, 0, []) else none) else (bif Nat.beq pc 28 then some (.invokevirtual 35, 94, 2, 0, []) else bif Nat.beq pc 31 then some (.ifCond .eq 38, 69, 0, 0, []) else bif Nat.beq pc 34 then some (.iload 6, 6, 0, 0, []) else none)))) else (bif Nat.ble pc 52 then (bif Nat.ble pc 44 then (bif Nat.ble pc 37 then (bif Nat.beq pc 36 then some (.aload_n 0, 0, 0, 0, []) else bif Nat.beq pc 37 then some (.getfield 9, 8, 0, 0, []) else none) else (bif Nat.beq pc 40 then some (.arraylength, 0, 0, 0, []) else bif Nat.beq pc 41 then some (.if_icmp .ge 28, 69, 0, 0, []) else bif Nat.beq pc 44 then some (.aload_n 0, 0, 0, 0, []) else none)) else (bif Nat.ble pc 48 then (bif Nat.beq pc 45 then some (.getfield 9, 8, 0, 0, []) else bif Nat.beq pc 48 then some (.iload 6, 6, 0, 0, []) else none) else (bif Nat.beq pc 50 then some (.iaload, 20, 0, 0, []) else bif Nat.beq pc 51 then some (.iload_n 2, 2, 0, 0, []) else bif Nat.beq pc 52 then some (.if_icmp .gt 17, 69, 0, 0, []) else none))) else (bif Nat.ble pc 63 then (bif Nat.ble pc 57 then (bif Nat.beq pc 55 then some (.iload 4, 4, 0, 0, []) else bif Nat.beq pc 57 then some (.aload_n 0, 0, 0, 0, []) else none) else (bif Nat.beq pc 58 then some (.getfield 9, 8, 0, 0, []) else bif Nat.beq pc 61 then some (.iload 6, 6, 0, 0, []) else bif Nat.beq pc 63 then some (.iaload, 20, 0, 0, []) else none)) else (bif Nat.ble pc 69 then (bif Nat.beq pc 64 then some (.invokestatic 39, 39, 2, 0, []) else bif Nat.beq pc 67 then some (.istore 4, 4, 0, 0, []) else bif Nat.beq pc 69 then some (.iinc 5 1, 5, 0, 1, []) else none) else (bif Nat.beq pc 72 then some (.goto (-66), 6, 0, 0, []) else bif Nat.beq pc 75 then some (.iload 4, 4, 0, 0, []) else bif Nat.beq pc 77 then some (.ireturn, 0, 0, 0, []) else none))))
def p93 (pc : Nat) : Option PE := bif Nat.ble pc 10 then (bif Nat.ble pc 4 then (bif Nat.beq pc 0 then some (.iload_n 1, 1, 0, 0, []) else bif Nat.beq pc 1 then some (.ifCond .lt 21, 22, 0, 0, []) else bif Nat.beq pc 4 then some (.iload_n 1, 1, 0, 0, []) else none) else (bif Nat.ble pc 6 then (bif Nat.beq pc 5 then some (.aload_n 0, 0, 0, 0, []) else bif Nat.beq pc 6 then some (.getfield 18, 8, 2, 0, []) else none) else (bif Nat.beq pc 9 then some (.arraylength, 0, 0, 0, []) else bif Nat.beq pc 10 then some (.if_icmp .ge 12, 22, 0, 0, []) else none))) else (bif Nat.ble pc 17 then (bif Nat.beq pc 13 then some (.aload_n 0, 0, 0, 0, []) else bif Nat.beq pc 14 then some (.getfield 18, 8, 2, 0, []) else bif Nat.beq pc 17 then some (.iload_n 1, 1, 0, 0, []) else none) else (bif Nat.ble pc 19 then (bif Nat.beq pc 18 then some (.iaload, 20, 0, 0, []) else bif Nat.beq pc 19 then some (.goto 4, 23, 0, 0, []) else none) else (bif Nat.beq pc 22 then some (.iconst 0, 0, 0, 0, []) else bif Nat.beq pc 23 then some (.ireturn, 0, 0, 0, []) else none)))
def p94 (pc : Nat) : Option PE := bif Nat.ble pc 13 then (bif Nat.ble pc 5 then (bif Nat.ble pc 1 then (bif Nat.beq pc 0 then some (.iload_n 1, 1, 0, 0, []) else bif Nat.beq pc 1 then some (.ifCond .lt 26, 27, 0, 0, []) else none) else (bif Nat.beq pc 4 then some (.iload_n 1, 1, 0, 0, []) else bif Nat.beq pc 5 then some (.aload_n 0, 0, 0, 0, []) else none)) else (bif Nat.ble pc 9 then (bif Nat.beq pc 6 then some (.getfield 15, 8, 1, 0, []) else bif Nat.beq pc 9 then some (.arraylength, 0, 0, 0, []) else none) else (bif Nat.beq pc 10 then some (.if_icmp .ge 17, 27, 0, 0, []) else bif Nat.beq pc 13 then some (.aload_n 0, 0, 0, 0, []) else none))) else (bif Nat.ble pc 19 then (bif Nat.ble pc 17 then (bif Nat.beq pc 14 then some (.getfield 15, 8, 1, 0, []) else bif Nat.beq pc 17 then some (.iload_n 1, 1, 0, 0, []) else none) else (bif Nat.beq pc 18 then some (.iaload, 20, 0, 0, []) else bif Nat.beq pc 19 then some (.iload_n 2, 2, 0, 0, []) else none)) else (bif Nat.ble pc 23 then (bif Nat.beq pc 20 then some (.if_icmp .ne 7, 27, 0, 0, []) else bif Nat.beq pc 23 then some (.iconst 1, 0, 0, 1, []) else none) else (bif Nat.beq pc 24 then some (.goto 4, 28, 0, 0, []) else bif Nat.beq pc 27 then some (.iconst 0, 0, 0, 0, []) else bif Nat.beq pc 28 then some (.ireturn, 0, 0, 0, []) else none)))
def p95 (pc : Nat) : Option PE := bif Nat.ble pc 20 then (bif Nat.ble pc 8 then (bif Nat.ble pc 1 then (bif Nat.beq pc 0 then some (.iload_n 1, 1, 0, 0, []) else bif Nat.beq pc 1 then some (.invokestatic 47, 15, 1, 0, []) else none) else (bif Nat.beq pc 4 then some (.ifCond .ne 5, 9, 0, 0, []) else bif Nat.beq pc 7 then some (.iconst (-1), 0, 0, -1, []) else bif Nat.beq pc 8 then some (.ireturn, 0, 0, 0, []) else none)) else (bif Nat.ble pc 13 then (bif Nat.beq pc 9 then some (.aload_n 0, 0, 0, 0, []) else bif Nat.beq pc 10 then some (.getfield 28, 11, 2, 0, []) else bif Nat.beq pc 13 then some (.getfield 95, 9, 0, 0, []) else none) else (bif Nat.beq pc 16 then some (.iload_n 1, 1, 0, 0, []) else bif Nat.beq pc 17 then some (.invokevirtual 99, 48, 1, 0, []) else bif Nat.beq pc 20 then some (.istore_n 2, 2, 0, 0, []) else none))) else (bif Nat.ble pc 30 then (bif Nat.ble pc 25 then (bif Nat.beq pc 21 then some (.aload_n 0, 0, 0, 0, []) else bif Nat.beq pc 22 then some (.getfield 28, 11, 2, 0, []) else bif Nat.beq pc 25 then some (.getfield 127, 9, 4, 0, []) else none) else (bif Nat.beq pc 28 then some (.iload_n 1, 1, 0, 0, []) else bif Nat.beq pc 29 then some (.iload_n 2, 2, 0, 0, []) else bif Nat.beq pc 30 then some (.aload_n 0, 0, 0, 0, []) else none)) else (bif Nat.ble pc 37 then (bif Nat.beq pc 31 then some (.getfield 28, 11, 2, 0, []) else bif Nat.beq pc 34 then some (.getfield 131, 9, 3, 0, []) else bif Nat.beq pc 37 then some (.getfield 135, 3, 4, 0, []) else none) else (bif Nat.beq pc 40 then some (.invokevirtual 147, 61, 3, 0, []) else bif Nat.beq pc 43 then some (.iload_n 2, 2, 0, 0, []) else bif Nat.beq pc 44 then some (.ireturn, 0, 0, 0, []) else none)))
def p96 (pc : Nat) : Option PE := none
def p97 (pc : Nat) : Option PE := none
def p98 (pc : Nat) : Option PE := bif Nat.ble pc 12 then (bif Nat.ble pc 4 then (bif Nat.ble pc 1 then (bif Nat.beq pc 0 then some (.iload_n 1, 1, 0, 0, []) else bif Nat.beq pc 1 then some (.iconst 0, 0, 0, 0, []) else none) else (bif Nat.beq pc 2 then some (.bipush 20, 0, 0, 20, []) else bif Nat.beq pc 4 then some (.invokestatic 39, 12, 3, 0, []) else none)) else (bif Nat.ble pc 10 then (bif Nat.beq pc 7 then some (.ifCond .ne 5, 12, 0, 0, []) else bif Nat.beq pc 10 then some (.iconst (-1), 0, 0, -1, []) else none) else (bif Nat.beq pc 11 then some (.ireturn, 0, 0, 0, []) else bif Nat.beq pc 12 then some (.aload_n 0, 0, 0, 0, []) else none))) else (bif Nat.ble pc 20 then (bif Nat.ble pc 16 then (bif Nat.beq pc 13 then some (.getfield 28, 11, 2, 0, []) else bif Nat.beq pc 16 then some (.getfield 156, 9, 13, 0, []) else none) else (bif Nat.beq pc 19 then some (.istore_n 2, 2, 0, 0, []) else bif Nat.beq pc 20 then some (.aload_n 0, 0, 0, 0, []) else none)) else (bif Nat.ble pc 24 then (bif Nat.beq pc 21 then some (.getfield 28, 11, 2, 0, []) else bif Nat.beq pc 24 then some (.iload_n 1, 1, 0, 0, []) else none) else (bif Nat.beq pc 25 then some (.putfield 156, 9, 13, 0, []) else bif Nat.beq pc 28 then some (.iload_n 2, 2, 0, 0, []) else bif Nat.beq pc 29 then some (.ireturn, 0, 0, 0, []) else none)))
def p99 (pc : Nat) : Option PE := bif Nat.ble pc 41 then (bif Nat.ble pc 18 then (bif Nat.ble pc 8 then (bif Nat.ble pc 1 then (bif Nat.beq pc 0 then some (.aload_n 0, 0, 0, 0, []) else bif Nat.beq pc 1 then some (.getfield 28, 11, 2, 0, []) else none) else (bif Nat.beq pc 4 then some (.getfield 95, 9, 0, 0, []) else bif Nat.beq pc 7 then some (.iload_n 1, 1, 0, 0, []) else bif Nat.beq pc 8 then some (.invokevirtual 159, 81, 1, 0, []) else none)) else (bif Nat.ble pc 14 then (bif Nat.beq pc 11 then some (.ifCond .eq 13, 24, 0, 0, []) else bif Nat.beq pc 14 then some (.iload_n 2, 2, 0, 0, []) else none) else (bif Nat.beq pc 15 then some (.iconst 0, 0, 0, 0, []) else bif Nat.beq pc 16 then some (.bipush 7, 0, 0, 7, []) else bif Nat.beq pc 18 then some (.invokestatic 39, 12, 3, 0, []) else none))) else (bif Nat.ble pc 28 then (bif Nat.ble pc 24 then (bif Nat.beq pc 21 then some (.ifCond .ne 6, 27, 0, 0, []) else bif Nat.beq pc 24 then some (.ldc 94, 0, 0, -2000000000, []) else none) else (bif Nat.beq pc 26 then some (.ireturn, 0, 0, 0, []) else bif Nat.beq pc 27 then some (.iload_n 2, 2, 0, 0, []) else bif Nat.beq pc 28 then some (.bipush 6, 0, 0, 6, []) else none)) else (bif Nat.ble pc 34 then (bif Nat.beq pc 30 then some (.if_icmp .ge 16, 46, 0, 0, []) else bif Nat.beq pc 33 then some (.aload_n 0, 0, 0, 0, []) else bif Nat.beq pc 34 then some (.getfield 28, 11, 2, 0, []) else none) else (bif Nat.beq pc 37 then some (.getfield 95, 9, 0, 0, []) else bif Nat.beq pc 40 then some (.iload_n 1, 1, 0, 0, []) else bif Nat.beq pc 41 then some (.iload_n 2, 2, 0, 0, []) else none)))) else (bif Nat.ble pc 61 then (bif Nat.ble pc 50 then (bif Nat.ble pc 45 then (bif Nat.beq pc 42 then some (.invokevirtual 162, 80, 2, 0, []) else bif Nat.beq pc 45 then some (.ireturn, 0, 0, 0, []) else none) else (bif Nat.beq pc 46 then some (.aload_n 0, 0, 0, 0, []) else bif Nat.beq pc 47 then some (.getfield 28, 11, 2, 0, []) else bif Nat.beq pc 50 then some (.getfield 131, 9, 3, 0, []) else none)) else (bif Nat.ble pc 54 then (bif Nat.beq pc 53 then some (.aload_n 0, 0, 0, 0, []) else bif Nat.beq pc 54 then some (.getfield 28, 11, 2, 0, []) else none) else (bif Nat.beq pc 57 then some (.getfield 95, 9, 0, 0, []) else bif Nat.beq pc 60 then some (.iload_n 1, 1, 0, 0, []) else bif Nat.beq pc 61 then some (.invokevirtual 163, 79, 2, 0, []) else none))) else (bif Nat.ble pc 72 then (bif Nat.ble pc 65 then (bif Nat.beq pc 64 then some (.aload_n 0, 0, 0, 0, []) else bif Nat.beq pc 65 then some (.getfield 28, 11, 2, 0, []) else none) else (bif Nat.beq pc 68 then some (.getfield 131, 9, 3, 0, []) else bif Nat.beq pc 71 then some (.iload_n 2, 2, 0, 0, []) else bif Nat.beq pc 72 then some (.bipush 6, 0, 0, 6, []) else none)) else (bif Nat.ble pc 78 then (bif Nat.beq pc 74 then some (.if_icmp .ne 7, 81, 0, 0, []) else bif Nat.beq pc 77 then some (.iconst 0, 0, 0, 0, []) else bif Nat.beq pc 78 then some (.goto 4, 82, 0, 0, []) else none) else (bif Nat.beq pc 81 then some (.iconst 1, 0, 0, 1, []) else bif Nat.beq pc 82 then some (.invokevirtual 167, 86, 1, 0, []) else bif Nat.beq pc 85 then some (.ireturn, 0, 0, 0, []) else none))))
def p100 (pc : Nat) : Option PE := none
def p101 (pc : Nat) : Option PE := none
def p102 (pc : Nat) : Option PE := none
def p103 (pc : Nat) : Option PE := none
def p104 (pc : Nat) : Option PE := none
def p105 (pc : Nat) : Option PE := none
def p106 (pc : Nat) : Option PE := bif Nat.ble pc 13 then (bif Nat.ble pc 3 then (bif Nat.ble pc 1 then (bif Nat.beq pc 0 then some (.aload_n 0, 0, 0, 0, []) else bif Nat.beq pc 1 then some (.iload_n 1, 1, 0, 0, []) else none) else (bif Nat.beq pc 2 then some (.iload_n 2, 2, 0, 0, []) else bif Nat.beq pc 3 then some (.invokevirtual 114, 89, 2, 0, []) else none)) else (bif Nat.ble pc 9 then (bif Nat.beq pc 6 then some (.ifCond .eq 22, 28, 0, 0, []) else bif Nat.beq pc 9 then some (.iload_n 2, 2, 0, 0, []) else none) else (bif Nat.beq pc 10 then some (.ifCond .le 18, 28, 0, 0, []) else bif Nat.beq pc 13 then some (.aload_n 0, 0, 0, 0, []) else none))) else (bif Nat.ble pc 21 then (bif Nat.ble pc 17 then (bif Nat.beq pc 14 then some (.getfield 28, 11, 2, 0, []) else bif Nat.beq pc 17 then some (.getfield 95, 9, 0, 0, []) else none) else (bif Nat.beq pc 20 then some (.iload_n 1, 1, 0, 0, []) else bif Nat.beq pc 21 then some (.iload_n 2, 2, 0, 0, []) else none)) else (bif Nat.ble pc 25 then (bif Nat.beq pc 22 then some (.invokevirtual 118, 90, 2, 0, []) else bif Nat.beq pc 25 then some (.goto 4, 29, 0, 0, []) else none) else (bif Nat.beq pc 28 then some (.iconst (-1), 0, 0, -1, []) else bif Nat.beq pc 29 then some (.ireturn, 0, 0, 0, []) else none)))
def p107 (pc : Nat) : Option PE := none
def p108 (pc : Nat) : Option PE := none
def p109 (pc : Nat) : Option PE := bif Nat.ble pc 33 then (bif Nat.ble pc 16 then (bif Nat.ble pc 7 then (bif Nat.ble pc 1 then (bif Nat.beq pc 0 then some (.iload_n 1, 1, 0, 0, []) else bif Nat.beq pc 1 then some (.invokestatic 185, 110, 1, 0, []) else none) else (bif Nat.beq pc 4 then some (.ifCond .ne 5, 9, 0, 0, []) else bif Nat.beq pc 7 then some (.iconst (-1), 0, 0, -1, []) else none)) else (bif Nat.ble pc 9 then (bif Nat.beq pc 8 then some (.ireturn, 0, 0, 0, []) else bif Nat.beq pc 9 then some (.aload_n 0, 0, 0, 0, []) else none) else (bif Nat.beq pc 10 then some (.getfield 14, 11, 0, 0, []) else bif Nat.beq pc 13 then some (.invokevirtual 51, 16, 0, 0, []) else bif Nat.beq pc 16 then some (.aload_n 0, 0, 0, 0, []) else none))) else (bif Nat.ble pc 24 then (bif Nat.ble pc 20 then (bif Nat.beq pc 17 then some (.getfield 14, 11, 0, 0, []) else bif Nat.beq pc 20 then some (.invokevirtual 188, 111, 0, 0, []) else none) else (bif Nat.beq pc 23 then some (.astore_n 2, 2, 0, 0, []) else bif Nat.beq pc 24 then some (.aload_n 0, 0, 0, 0, []) else none)) else (bif Nat.ble pc 28 then (bif Nat.beq pc 25 then some (.getfield 14, 11, 0, 0, []) else bif Nat.beq pc 28 then some (.invokevirtual 58, 45, 0, 0, []) else none) else (bif Nat.beq pc 31 then some (.istore_n 3, 3, 0, 0, []) else bif Nat.beq pc 32 then some (.iload_n 3, 3, 0, 0, []) else bif Nat.beq pc 33 then some (.ifCond .lt 8, 41, 0, 0, []) else none)))) else (bif Nat.ble pc 49 then (bif Nat.ble pc 40 then (bif Nat.ble pc 38 then (bif Nat.beq pc 36 then some (.bipush (-100), 0, 0, -100, []) else bif Nat.beq pc 38 then some (.iload_n 3, 3, 0, 0, []) else none) else (bif Nat.beq pc 39 then some (.isub, 0, 0, 0, []) else bif Nat.beq pc 40 then some (.ireturn, 0, 0, 0, []) else none)) else (bif Nat.ble pc 42 then (bif Nat.beq pc 41 then some (.aload_n 0, 0, 0, 0, []) else bif Nat.beq pc 42 then some (.getfield 28, 11, 2, 0, []) else none) else (bif Nat.beq pc 45 then some (.getfield 192, 9, 6, 0, []) else bif Nat.beq pc 48 then some (.iload_n 1, 1, 0, 0, []) else bif Nat.beq pc 49 then some (.aload_n 2, 2, 0, 0, []) else none))) else (bif Nat.ble pc 55 then (bif Nat.ble pc 51 then (bif Nat.beq pc 50 then some (.aastore, 0, 0, 0, []) else bif Nat.beq pc 51 then some (.aload_n 0, 0, 0, 0, []) else none) else (bif Nat.beq pc 52 then some (.getfield 28, 11, 2, 0, []) else bif Nat.beq pc 55 then some (.getfield 196, 9, 7, 0, []) else none)) else (bif Nat.ble pc 59 then (bif Nat.beq pc 58 then some (.iload_n 1, 1, 0, 0, []) else bif Nat.beq pc 59 then some (.aconst_null, 0, 0, 0, []) else none) else (bif Nat.beq pc 60 then some (.aastore, 0, 0, 0, []) else bif Nat.beq pc 61 then some (.iconst 1, 0, 0, 1, []) else bif Nat.beq pc 62 then some (.ireturn, 0, 0, 0, []) else none))))
def p110 (pc : Nat) : Option PE := bif Nat.ble pc 1 then (bif Nat.beq pc 0 then some (.iload_n 0, 0, 0, 0, []) else bif Nat.beq pc 1 then some (.iconst 0, 0, 0, 0, []) else none) else (bif Nat.beq pc 2 then some (.iconst 3, 0, 0, 3, []) else bif Nat.beq pc 3 then some (.invokestatic 39, 12, 3, 0, []) else bif Nat.beq pc 6 then some (.ireturn, 0, 0, 0, []) else none)
def p111 (pc : Nat) : Option PE := bif Nat.ble pc 56 then (bif Nat.ble pc 26 then (bif Nat.ble pc 10 then (bif Nat.ble pc 3 then (bif Nat.beq pc 0 then some (.aload_n 0, 0, 0, 0, []) else bif Nat.beq pc 1 then some (.ldc 142, 1, 23, 0, []) else bif Nat.beq pc 3 then some (.invokevirtual 110, 18, 1, 0, []) else none) else (bif Nat.ble pc 7 then (bif Nat.beq pc 6 then some (.istore_n 1, 1, 0, 0, []) else bif Nat.beq pc 7 then some (.aload_n 0, 0, 0, 0, []) else none) else (bif Nat.beq pc 8 then some (.bipush 32, 0, 0, 32, []) else bif Nat.beq pc 10 then some (.invokevirtual 105, 26, 1, 0, []) else none))) else (bif Nat.ble pc 19 then (bif Nat.ble pc 14 then (bif Nat.beq pc 13 then some (.aload_n 0, 0, 0, 0, []) else bif Nat.beq pc 14 then some (.ldc 144, 1, 25, 0, []) else none) else (bif Nat.beq pc 16 then some (.invokevirtual 110, 18, 1, 0, []) else bif Nat.beq pc 19 then some (.pop, 0, 0, 0, []) else none)) else (bif Nat.ble pc 21 then (bif Nat.beq pc 20 then some (.aload_n 0, 0, 0, 0, []) else bif Nat.beq pc 21 then some (.bipush 32, 0, 0, 32, []) else none) else (bif Nat.beq pc 23 then some (.invokevirtual 105, 26, 1, 0, []) else bif Nat.beq pc 26 then some (.aload_n 0, 0, 0, 0, []) else none)))) else (bif Nat.ble pc 40 then (bif Nat.ble pc 32 then (bif Nat.ble pc 30 then (bif Nat.beq pc 27 then some (.invokevirtual 146, 112, 0, 0, []) else bif Nat.beq pc 30 then some (.istore_n 2, 2, 0, 0, []) else none) else (bif Nat.beq pc 31 then some (.aload_n 0, 0, 0, 0, []) else bif Nat.beq pc 32 then some (.bipush 32, 0, 0, 32, []) else none)) else (bif Nat.ble pc 37 then (bif Nat.beq pc 34 then some (.invokevirtual 105, 26, 1, 0, []) else bif Nat.beq pc 37 then some (.aload_n 0, 0, 0, 0, []) else none) else (bif Nat.beq pc 38 then some (.ldc 149, 1, 31, 0, []) else bif Nat.beq pc 40 then some (.invokevirtual 110, 18, 1, 0, []) else none))) else (bif Nat.ble pc 47 then (bif Nat.ble pc 44 then (bif Nat.beq pc 43 then some (.pop, 0, 0, 0, []) else bif Nat.beq pc 44 then some (.aload_n 0, 0, 0, 0, []) else none) else (bif Nat.beq pc 45 then some (.bipush 32, 0, 0, 32, []) else bif Nat.beq pc 47 then some (.invokevirtual 105, 26, 1, 0, []) else none)) else (bif Nat.ble pc 51 then (bif Nat.beq pc 50 then some (.aload_n 0, 0, 0, 0, []) else bif Nat.beq pc 51 then some (.ldc 151, 1, 33, 0, []) else none) else (bif Nat.beq pc 53 then some (.invokevirtual 110, 18, 1, 0, []) else bif Nat.beq pc 56 then some (.istore_n 3, 3, 0, 0, []) else none))))) else (bif Nat.ble pc 87 then (bif Nat.ble pc 72 then (bif Nat.ble pc 63 then (bif Nat.ble pc 60 then (bif Nat.beq pc 57 then some (.invokestatic 153, 113, 0, 0, []) else bif Nat.beq pc 60 then some (.astore 4, 4, 0, 0, []) else none) else (bif Nat.beq pc 62 then some (.aload_n 0, 0, 0, 0, []) else bif Nat.beq pc 63 then some (.invokevirtual 38, 27, 0, 0, []) else none)) else (bif Nat.ble pc 68 then (bif Nat.beq pc 66 then some (.bipush 32, 0, 0, 32, []) else bif Nat.beq pc 68 then some (.if_icmp .ne 35, 103, 0, 0, []) else none) else (bif Nat.beq pc 71 then some (.aload_n 0, 0, 0, 0, []) else bif Nat.beq pc 72 then some (.dup, 0, 0, 0, []) else none))) else (bif Nat.ble pc 78 then (bif Nat.ble pc 76 then (bif Nat.beq pc 73 then some (.getfield 31, 10, 5, 0, []) else bif Nat.beq pc 76 then some (.iconst 1, 0, 0, 1, []) else none) else (bif Nat.beq pc 77 then some (.iadd, 0, 0, 0, []) else bif Nat.beq pc 78 then some (.putfield 31, 10, 5, 0, []) else none)) else (bif Nat.ble pc 82 then (bif Nat.beq pc 81 then some (.aload_n 0, 0, 0, 0, []) else bif Nat.beq pc 82 then some (.ldc 157, 1, 35, 0, []) else none) else (bif Nat.beq pc 84 then some (.invokevirtual 110, 18, 1, 0, []) else bif Nat.beq pc 87 then some (.pop, 0, 0, 0, []) else none)))) else (bif Nat.ble pc 101 then (bif Nat.ble pc 94 then (bif Nat.ble pc 89 then (bif Nat.beq pc 88 then some (.aload_n 0, 0, 0, 0, []) else bif Nat.beq pc 89 then some (.bipush 32, 0, 0, 32, []) else none) else (bif Nat.beq pc 91 then some (.invokevirtual 105, 26, 1, 0, []) else bif Nat.beq pc 94 then some (.aload_n 0, 0, 0, 0, []) else none)) else (bif Nat.ble pc 97 then (bif Nat.beq pc 95 then some (.ldc 18, 1, 1, 0, []) else bif Nat.beq pc 97 then some (.iconst 0, 0, 0, 0, []) else none) else (bif Nat.beq pc 98 then some (.invokevirtual 119, 28, 2, 0, []) else bif Nat.beq pc 101 then some (.astore 4, 4, 0, 0, []) else none))) else (bif Nat.ble pc 108 then (bif Nat.ble pc 106 then (bif Nat.beq pc 103 then some (.new 159, 7, 0, 0, []) else bif Nat.beq pc 106 then some (.dup, 0, 0, 0, []) else none) else (bif Nat.beq pc 107 then some (.iload_n 1, 1, 0, 0, []) else bif Nat.beq pc 108 then some (.iload_n 2, 2, 0, 0, []) else none)) else (bif Nat.ble pc 110 then (bif Nat.beq pc 109 then some (.iload_n 3, 3, 0, 0, []) else bif Nat.beq pc 110 then some (.aload 4, 4, 0, 0, []) else none) else (bif Nat.beq pc 112 then some (.invokespecial 161, 114, 5, 0, []) else bif Nat.beq pc 115 then some (.areturn, 0, 0, 0, []) else none)))))
def p112 (pc : Nat) : Option PE := bif Nat.ble pc 44 then (bif Nat.ble pc 22 then (bif Nat.ble pc 8 then (bif Nat.ble pc 3 then (bif Nat.beq pc 0 then some (.aload_n 0, 0, 0, 0, []) else bif Nat.beq pc 1 then some (.ldc 138, 1, 27, 0, []) else bif Nat.beq pc 3 then some (.invokevirtual 110, 18, 1, 0, []) else none) else (bif Nat.beq pc 6 then some (.istore_n 1, 1, 0, 0, []) else bif Nat.beq pc 7 then some (.iload_n 1, 1, 0, 0, []) else bif Nat.beq pc 8 then some (.iconst (-1), 0, 0, -1, []) else none)) else (bif Nat.ble pc 13 then (bif Nat.beq pc 9 then some (.if_icmp .eq 9, 18, 0, 0, []) else bif Nat.beq pc 12 then some (.iload_n 1, 1, 0, 0, []) else bif Nat.beq pc 13 then some (.bipush 9, 0, 0, 9, []) else none) else (bif Nat.ble pc 18 then (bif Nat.beq pc 15 then some (.if_icmp .ne 7, 22, 0, 0, []) else bif Nat.beq pc 18 then some (.sipush 511, 0, 0, 511, []) else none) else (bif Nat.beq pc 21 then some (.ireturn, 0, 0, 0, []) else bif Nat.beq pc 22 then some (.iconst 1, 0, 0, 1, []) else none)))) else (bif Nat.ble pc 28 then (bif Nat.ble pc 25 then (bif Nat.beq pc 23 then some (.iload_n 1, 1, 0, 0, []) else bif Nat.beq pc 24 then some (.ishl, 0, 0, 0, []) else bif Nat.beq pc 25 then some (.istore_n 2, 2, 0, 0, []) else none) else (bif Nat.beq pc 26 then some (.iconst 0, 0, 0, 0, []) else bif Nat.beq pc 27 then some (.istore_n 3, 3, 0, 0, []) else bif Nat.beq pc 28 then some (.iload_n 3, 3, 0, 0, []) else none)) else (bif Nat.ble pc 35 then (bif Nat.beq pc 29 then some (.sipush 160, 0, 0, 160, []) else bif Nat.beq pc 32 then some (.if_icmp .ge 52, 84, 0, 0, []) else bif Nat.beq pc 35 then some (.aload_n 0, 0, 0, 0, []) else none) else (bif Nat.ble pc 39 then (bif Nat.beq pc 36 then some (.invokevirtual 38, 27, 0, 0, []) else bif Nat.beq pc 39 then some (.bipush 43, 0, 0, 43, []) else none) else (bif Nat.beq pc 41 then some (.if_icmp .eq 5, 46, 0, 0, []) else bif Nat.beq pc 44 then some (.iload_n 2, 2, 0, 0, []) else none))))) else (bif Nat.ble pc 64 then (bif Nat.ble pc 52 then (bif Nat.ble pc 47 then (bif Nat.beq pc 45 then some (.ireturn, 0, 0, 0, []) else bif Nat.beq pc 46 then some (.aload_n 0, 0, 0, 0, []) else bif Nat.beq pc 47 then some (.dup, 0, 0, 0, []) else none) else (bif Nat.beq pc 48 then some (.getfield 31, 10, 5, 0, []) else bif Nat.beq pc 51 then some (.iconst 1, 0, 0, 1, []) else bif Nat.beq pc 52 then some (.iadd, 0, 0, 0, []) else none)) else (bif Nat.ble pc 57 then (bif Nat.beq pc 53 then some (.putfield 31, 10, 5, 0, []) else bif Nat.beq pc 56 then some (.aload_n 0, 0, 0, 0, []) else bif Nat.beq pc 57 then some (.ldc 140, 1, 29, 0, []) else none) else (bif Nat.ble pc 62 then (bif Nat.beq pc 59 then some (.invokevirtual 110, 18, 1, 0, []) else bif Nat.beq pc 62 then some (.istore_n 1, 1, 0, 0, []) else none) else (bif Nat.beq pc 63 then some (.iload_n 2, 2, 0, 0, []) else bif Nat.beq pc 64 then some (.iload_n 1, 1, 0, 0, []) else none)))) else (bif Nat.ble pc 74 then (bif Nat.ble pc 69 then (bif Nat.beq pc 65 then some (.iconst (-1), 0, 0, -1, []) else bif Nat.beq pc 66 then some (.if_icmp .ne 7, 73, 0, 0, []) else bif Nat.beq pc 69 then some (.iconst 0, 0, 0, 0, []) else none) else (bif Nat.beq pc 70 then some (.goto 6, 76, 0, 0, []) else bif Nat.beq pc 73 then some (.iconst 1, 0, 0, 1, []) else bif Nat.beq pc 74 then some (.iload_n 1, 1, 0, 0, []) else none)) else (bif Nat.ble pc 77 then (bif Nat.beq pc 75 then some (.ishl, 0, 0, 0, []) else bif Nat.beq pc 76 then some (.ior, 0, 0, 0, []) else bif Nat.beq pc 77 then some (.istore_n 2, 2, 0, 0, []) else none) else (bif Nat.ble pc 81 then (bif Nat.beq pc 78 then some (.iinc 3 1, 3, 0, 1, []) else bif Nat.beq pc 81 then some (.goto (-53), 28, 0, 0, []) else none) else (bif Nat.beq pc 84 then some (.iload_n 2, 2, 0, 0, []) else bif Nat.beq pc 85 then some (.ireturn, 0, 0, 0, []) else none)))))
def p113 (pc : Nat) : Option PE := bif Nat.ble pc 6 then (bif Nat.ble pc 3 then (bif Nat.beq pc 0 then some (.iconst 1, 0, 0, 1, []) else bif Nat.beq pc 1 then some (.newarray .int, 0, 0, 0, []) else bif Nat.beq pc 3 then some (.astore_n 0, 0, 0, 0, []) else none) else (bif Nat.beq pc 4 then some (.aload_n 0, 0, 0, 0, []) else bif Nat.beq pc 5 then some (.iconst 0, 0, 0, 0, []) else bif Nat.beq pc 6 then some (.iconst 1, 0, 0, 1, []) else none)) else (bif Nat.ble pc 11 then (bif Nat.beq pc 7 then some (.iastore, 0, 0, 0, []) else bif Nat.beq pc 8 then some (.new 68, 4, 0, 0, []) else bif Nat.beq pc 11 then some (.dup, 0, 0, 0, []) else none) else (bif Nat.beq pc 12 then some (.aload_n 0, 0, 0, 0, []) else bif Nat.beq pc 13 then some (.invokespecial 76, 44, 2, 0, []) else bif Nat.beq pc 16 then some (.areturn, 0, 0, 0, []) else none))
def p114 (pc : Nat) : Option PE := bif Nat.ble pc 14 then (bif Nat.ble pc 5 then (bif Nat.ble pc 1 then (bif Nat.beq pc 0 then some (.aload_n 0, 0, 0, 0, []) else bif Nat.beq pc 1 then some (.invokespecial 3, 0, 0, 0, []) else none) else (bif Nat.beq pc 4 then some (.aload_n 0, 0, 0, 0, []) else bif Nat.beq pc 5 then some (.iload_n 1, 1, 0, 0, []) else none)) else (bif Nat.ble pc 9 then (bif Nat.beq pc 6 then some (.putfield 9, 7, 0, 0, []) else bif Nat.beq pc 9 then some (.aload_n 0, 0, 0, 0, []) else none) else (bif Nat.beq pc 10 then some (.iload_n 2, 2, 0, 0, []) else bif Nat.beq pc 11 then some (.putfield 15, 7, 1, 0, []) else bif Nat.beq pc 14 then some (.aload_n 0, 0, 0, 0, []) else none))) else (bif Nat.ble pc 22 then (bif Nat.ble pc 16 then (bif Nat.beq pc 15 then some (.iload_n 3, 3, 0, 0, []) else bif Nat.beq pc 16 then some (.putfield 18, 7, 2, 0, []) else none) else (bif Nat.beq pc 19 then some (.aload_n 0, 0, 0, 0, []) else bif Nat.beq pc 20 then some (.aload 4, 4, 0, 0, []) else bif Nat.beq pc 22 then some (.putfield 21, 7, 3, 0, []) else none)) else (bif Nat.ble pc 26 then (bif Nat.beq pc 25 then some (.aload_n 0, 0, 0, 0, []) else bif Nat.beq pc 26 then some (.bipush 9, 0, 0, 9, []) else none) else (bif Nat.beq pc 28 then some (.newarray .int, 0, 0, 0, []) else bif Nat.beq pc 30 then some (.putfield 25, 7, 4, 0, []) else bif Nat.beq pc 33 then some (.return_, 0, 0, 0, []) else none)))
def p115 (pc : Nat) : Option PE := bif Nat.ble pc 48 then (bif Nat.ble pc 20 then (bif Nat.ble pc 9 then (bif Nat.ble pc 4 then (bif Nat.beq pc 0 then some (.iload_n 1, 1, 0, 0, []) else bif Nat.beq pc 1 then some (.invokestatic 185, 110, 1, 0, []) else bif Nat.beq pc 4 then some (.ifCond .ne 5, 9, 0, 0, []) else none) else (bif Nat.beq pc 7 then some (.iconst (-1), 0, 0, -1, []) else bif Nat.beq pc 8 then some (.ireturn, 0, 0, 0, []) else bif Nat.beq pc 9 then some (.aload_n 0, 0, 0, 0, []) else none)) else (bif Nat.ble pc 16 then (bif Nat.beq pc 10 then some (.getfield 28, 11, 2, 0, []) else bif Nat.beq pc 13 then some (.getfield 192, 9, 6, 0, []) else bif Nat.beq pc 16 then some (.iload_n 1, 1, 0, 0, []) else none) else (bif Nat.ble pc 18 then (bif Nat.beq pc 17 then some (.aaload, 0, 0, 0, []) else bif Nat.beq pc 18 then some (.astore_n 2, 2, 0, 0, []) else none) else (bif Nat.beq pc 19 then some (.aload_n 2, 2, 0, 0, []) else bif Nat.beq pc 20 then some (.ifnonnull 6, 26, 0, 0, []) else none)))) else (bif Nat.ble pc 33 then (bif Nat.ble pc 26 then (bif Nat.beq pc 23 then some (.bipush (-5), 0, 0, -5, []) else bif Nat.beq pc 25 then some (.ireturn, 0, 0, 0, []) else bif Nat.beq pc 26 then some (.aload_n 0, 0, 0, 0, []) else none) else (bif Nat.beq pc 27 then some (.getfield 14, 11, 0, 0, []) else bif Nat.beq pc 30 then some (.getfield 199, 10, 4, 0, []) else bif Nat.beq pc 33 then some (.ifCond .ne 18, 51, 0, 0, []) else none)) else (bif Nat.ble pc 40 then (bif Nat.beq pc 36 then some (.aload_n 0, 0, 0, 0, []) else bif Nat.beq pc 37 then some (.getfield 28, 11, 2, 0, []) else bif Nat.beq pc 40 then some (.getfield 196, 9, 7, 0, []) else none) else (bif Nat.ble pc 44 then (bif Nat.beq pc 43 then some (.iload_n 1, 1, 0, 0, []) else bif Nat.beq pc 44 then some (.aload_n 2, 2, 0, 0, []) else none) else (bif Nat.beq pc 45 then some (.invokevirtual 200, 116, 0, 0, []) else bif Nat.beq pc 48 then some (.aastore, 0, 0, 0, []) else none))))) else (bif Nat.ble pc 73 then (bif Nat.ble pc 58 then (bif Nat.ble pc 51 then (bif Nat.beq pc 49 then some (.iconst 1, 0, 0, 1, []) else bif Nat.beq pc 50 then some (.ireturn, 0, 0, 0, []) else bif Nat.beq pc 51 then some (.aload_n 0, 0, 0, 0, []) else none) else (bif Nat.beq pc 52 then some (.getfield 14, 11, 0, 0, []) else bif Nat.beq pc 55 then some (.invokevirtual 51, 16, 0, 0, []) else bif Nat.beq pc 58 then some (.aload_n 0, 0, 0, 0, []) else none)) else (bif Nat.ble pc 65 then (bif Nat.beq pc 59 then some (.getfield 14, 11, 0, 0, []) else bif Nat.beq pc 62 then some (.invokevirtual 188, 111, 0, 0, []) else bif Nat.beq pc 65 then some (.astore_n 3, 3, 0, 0, []) else none) else (bif Nat.ble pc 67 then (bif Nat.beq pc 66 then some (.aload_n 0, 0, 0, 0, []) else bif Nat.beq pc 67 then some (.getfield 14, 11, 0, 0, []) else none) else (bif Nat.beq pc 70 then some (.invokevirtual 58, 45, 0, 0, []) else bif Nat.beq pc 73 then some (.istore 4, 4, 0, 0, []) else none)))) else (bif Nat.ble pc 86 then (bif Nat.ble pc 80 then (bif Nat.beq pc 75 then some (.iload 4, 4, 0, 0, []) else bif Nat.beq pc 77 then some (.ifCond .lt 9, 86, 0, 0, []) else bif Nat.beq pc 80 then some (.bipush (-100), 0, 0, -100, []) else none) else (bif Nat.ble pc 84 then (bif Nat.beq pc 82 then some (.iload 4, 4, 0, 0, []) else bif Nat.beq pc 84 then some (.isub, 0, 0, 0, []) else none) else (bif Nat.beq pc 85 then some (.ireturn, 0, 0, 0, []) else bif Nat.beq pc 86 then some (.aload_n 0, 0, 0, 0, []) else none))) else (bif Nat.ble pc 93 then (bif Nat.beq pc 87 then some (.getfield 28, 11, 2, 0, []) else bif Nat.beq pc 90 then some (.getfield 196, 9, 7, 0, []) else bif Nat.beq pc 93 then some (.iload_n 1, 1, 0, 0, []) else none) else (bif Nat.ble pc 95 then (bif Nat.beq pc 94 then some (.aload_n 3, 3, 0, 0, []) else bif Nat.beq pc 95 then some (.aastore, 0, 0, 0, []) else none) else (bif Nat.beq pc 96 then some (.iconst 1, 0, 0, 1, []) else bif Nat.beq pc 97 then some (.ireturn, 0, 0, 0, []) else none)))))
def p116 (pc : Nat) : Option PE := bif Nat.ble pc 9 then (bif Nat.ble pc 4 then (bif Nat.beq pc 0 then some (.new 10, 7, 0, 0, []) else bif Nat.beq pc 3 then some (.dup, 0, 0, 0, []) else bif Nat.beq pc 4 then some (.aload_n 0, 0, 0, 0, []) else none) else (bif Nat.beq pc 5 then some (.getfield 9, 7, 0, 0, []) else bif Nat.beq pc 8 then some (.aload_n 0, 0, 0, 0, []) else bif Nat.beq pc 9 then some (.getfield 15, 7, 1, 0, []) else none)) else (bif Nat.ble pc 16 then (bif Nat.beq pc 12 then some (.aload_n 0, 0, 0, 0, []) else bif Nat.beq pc 13 then some (.getfield 18, 7, 2, 0, []) else bif Nat.beq pc 16 then some (.aload_n 0, 0, 0, 0, []) else none) else (bif Nat.beq pc 17 then some (.getfield 21, 7, 3, 0, []) else bif Nat.beq pc 20 then some (.invokespecial 29, 114, 5, 0, []) else bif Nat.beq pc 23 then some (.areturn, 0, 0, 0, []) else none))
def p117 (pc : Nat) : Option PE := bif Nat.ble pc 33 then (bif Nat.ble pc 13 then (bif Nat.ble pc 7 then (bif Nat.ble pc 1 then (bif Nat.beq pc 0 then some (.iload_n 1, 1, 0, 0, []) else bif Nat.beq pc 1 then some (.invokestatic 185, 110, 1, 0, []) else none) else (bif Nat.beq pc 4 then some (.ifCond .eq 29, 33, 0, 0, []) else bif Nat.beq pc 7 then some (.iload_n 2, 2, 0, 0, []) else none)) else (bif Nat.ble pc 9 then (bif Nat.beq pc 8 then some (.iconst 0, 0, 0, 0, []) else bif Nat.beq pc 9 then some (.iconst 1, 0, 0, 1, []) else none) else (bif Nat.beq pc 10 then some (.invokestatic 39, 12, 3, 0, []) else bif Nat.beq pc 13 then some (.ifCond .eq 20, 33, 0, 0, []) else none))) else (bif Nat.ble pc 21 then (bif Nat.ble pc 17 then (bif Nat.beq pc 16 then some (.iload_n 3, 3, 0, 0, []) else bif Nat.beq pc 17 then some (.iconst 1, 0, 0, 1, []) else none) else (bif Nat.beq pc 18 then some (.if_icmp .lt 15, 33, 0, 0, []) else bif Nat.beq pc 21 then some (.iload 4, 4, 0, 0, []) else none)) else (bif Nat.ble pc 24 then (bif Nat.beq pc 23 then some (.iconst 1, 0, 0, 1, []) else bif Nat.beq pc 24 then some (.sipush 240, 0, 0, 240, []) else none) else (bif Nat.beq pc 27 then some (.invokestatic 39, 12, 3, 0, []) else bif Nat.beq pc 30 then some (.ifCond .ne 5, 35, 0, 0, []) else bif Nat.beq pc 33 then some (.iconst (-1), 0, 0, -1, []) else none)))) else (bif Nat.ble pc 48 then (bif Nat.ble pc 39 then (bif Nat.ble pc 35 then (bif Nat.beq pc 34 then some (.ireturn, 0, 0, 0, []) else bif Nat.beq pc 35 then some (.aload_n 0, 0, 0, 0, []) else none) else (bif Nat.beq pc 36 then some (.getfield 28, 11, 2, 0, []) else bif Nat.beq pc 39 then some (.iload_n 1, 1, 0, 0, []) else none)) else (bif Nat.ble pc 41 then (bif Nat.beq pc 40 then some (.iload_n 2, 2, 0, 0, []) else bif Nat.beq pc 41 then some (.invokevirtual 205, 118, 2, 0, []) else none) else (bif Nat.beq pc 44 then some (.astore 5, 5, 0, 0, []) else bif Nat.beq pc 46 then some (.aload 5, 5, 0, 0, []) else bif Nat.beq pc 48 then some (.ifnonnull 8, 56, 0, 0, []) else none))) else (bif Nat.ble pc 57 then (bif Nat.ble pc 53 then (bif Nat.beq pc 51 then some (.bipush (-5), 0, 0, -5, []) else bif Nat.beq pc 53 then some (.goto 15, 68, 0, 0, []) else none) else (bif Nat.beq pc 56 then some (.aload_n 0, 0, 0, 0, []) else bif Nat.beq pc 57 then some (.getfield 28, 11, 2, 0, []) else none)) else (bif Nat.ble pc 62 then (bif Nat.beq pc 60 then some (.aload 5, 5, 0, 0, []) else bif Nat.beq pc 62 then some (.iload_n 3, 3, 0, 0, []) else none) else (bif Nat.beq pc 63 then some (.iload 4, 4, 0, 0, []) else bif Nat.beq pc 65 then some (.invokevirtual 209, 119, 3, 0, []) else bif Nat.beq pc 68 then some (.ireturn, 0, 0, 0, []) else none))))
def p118 (pc : Nat) : Option PE := bif Nat.ble pc 12 then (bif Nat.ble pc 5 then (bif Nat.ble pc 1 then (bif Nat.beq pc 0 then some (.iload_n 1, 1, 0, 0, []) else bif Nat.beq pc 1 then some (.ifCond .lt 8, 9, 0, 0, []) else none) else (bif Nat.beq pc 4 then some (.iload_n 1, 1, 0, 0, []) else bif Nat.beq pc 5 then some (.iconst 4, 0, 0, 4, []) else none)) else (bif Nat.ble pc 9 then (bif Nat.beq pc 6 then some (.if_icmp .lt 5, 11, 0, 0, []) else bif Nat.beq pc 9 then some (.aconst_null, 0, 0, 0, []) else none) else (bif Nat.beq pc 10 then some (.areturn, 0, 0, 0, []) else bif Nat.beq pc 11 then some (.iload_n 2, 2, 0, 0, []) else bif Nat.beq pc 12 then some (.ifCond .ne 12, 24, 0, 0, []) else none))) else (bif Nat.ble pc 21 then (bif Nat.ble pc 16 then (bif Nat.beq pc 15 then some (.aload_n 0, 0, 0, 0, []) else bif Nat.beq pc 16 then some (.getfield 48, 9, 6, 0, []) else none) else (bif Nat.beq pc 19 then some (.iload_n 1, 1, 0, 0, []) else bif Nat.beq pc 20 then some (.aaload, 0, 0, 0, []) else bif Nat.beq pc 21 then some (.goto 9, 30, 0, 0, []) else none)) else (bif Nat.ble pc 25 then (bif Nat.beq pc 24 then some (.aload_n 0, 0, 0, 0, []) else bif Nat.beq pc 25 then some (.getfield 52, 9, 7, 0, []) else none) else (bif Nat.beq pc 28 then some (.iload_n 1, 1, 0, 0, []) else bif Nat.beq pc 29 then some (.aaload, 0, 0, 0, []) else bif Nat.beq pc 30 then some (.areturn, 0, 0, 0, []) else none)))
def p119 (pc : Nat) : Option PE := bif Nat.ble pc 42 then (bif Nat.ble pc 20 then (bif Nat.ble pc 8 then (bif Nat.ble pc 3 then (bif Nat.beq pc 0 then some (.iconst 0, 0, 0, 0, []) else bif Nat.beq pc 1 then some (.istore 4, 4, 0, 0, []) else bif Nat.beq pc 3 then some (.iconst 0, 0, 0, 0, []) else none) else (bif Nat.beq pc 4 then some (.istore 5, 5, 0, 0, []) else bif Nat.beq pc 6 then some (.iload 5, 5, 0, 0, []) else bif Nat.beq pc 8 then some (.iload_n 3, 3, 0, 0, []) else none)) else (bif Nat.ble pc 13 then (bif Nat.beq pc 9 then some (.if_icmp .ge 84, 93, 0, 0, []) else bif Nat.beq pc 12 then some (.iload_n 2, 2, 0, 0, []) else bif Nat.beq pc 13 then some (.aload_n 0, 0, 0, 0, []) else none) else (bif Nat.beq pc 14 then some (.getfield 12, 9, 0, 0, []) else bif Nat.beq pc 17 then some (.getfield 200, 5, 4, 0, []) else bif Nat.beq pc 20 then some (.iload 5, 5, 0, 0, []) else none))) else (bif Nat.ble pc 30 then (bif Nat.ble pc 26 then (bif Nat.beq pc 22 then some (.isub, 0, 0, 0, []) else bif Nat.beq pc 23 then some (.if_icmp .le 6, 29, 0, 0, []) else bif Nat.beq pc 26 then some (.iload 4, 4, 0, 0, []) else none) else (bif Nat.beq pc 28 then some (.ireturn, 0, 0, 0, []) else bif Nat.beq pc 29 then some (.iload_n 2, 2, 0, 0, []) else bif Nat.beq pc 30 then some (.iload 5, 5, 0, 0, []) else none)) else (bif Nat.ble pc 35 then (bif Nat.beq pc 32 then some (.iadd, 0, 0, 0, []) else bif Nat.beq pc 33 then some (.istore 6, 6, 0, 0, []) else bif Nat.beq pc 35 then some (.iload 6, 6, 0, 0, []) else none) else (bif Nat.ble pc 38 then (bif Nat.beq pc 37 then some (.aload_n 1, 1, 0, 0, []) else bif Nat.beq pc 38 then some (.getfield 222, 7, 6, 0, []) else none) else (bif Nat.beq pc 41 then some (.iconst 1, 0, 0, 1, []) else bif Nat.beq pc 42 then some (.iadd, 0, 0, 0, []) else none))))) else (bif Nat.ble pc 66 then (bif Nat.ble pc 54 then (bif Nat.ble pc 47 then (bif Nat.beq pc 43 then some (.if_icmp .le 12, 55, 0, 0, []) else bif Nat.beq pc 46 then some (.aload_n 0, 0, 0, 0, []) else bif Nat.beq pc 47 then some (.bipush 6, 0, 0, 6, []) else none) else (bif Nat.beq pc 49 then some (.invokevirtual 120, 47, 1, 0, []) else bif Nat.beq pc 52 then some (.iload 4, 4, 0, 0, []) else bif Nat.beq pc 54 then some (.ireturn, 0, 0, 0, []) else none)) else (bif Nat.ble pc 58 then (bif Nat.beq pc 55 then some (.iload 6, 6, 0, 0, []) else bif Nat.beq pc 57 then some (.aload_n 1, 1, 0, 0, []) else bif Nat.beq pc 58 then some (.getfield 222, 7, 6, 0, []) else none) else (bif Nat.ble pc 64 then (bif Nat.beq pc 61 then some (.if_icmp .gt 11, 72, 0, 0, []) else bif Nat.beq pc 64 then some (.aload_n 0, 0, 0, 0, []) else none) else (bif Nat.beq pc 65 then some (.iconst 5, 0, 0, 5, []) else bif Nat.beq pc 66 then some (.invokevirtual 120, 47, 1, 0, []) else none)))) else (bif Nat.ble pc 79 then (bif Nat.ble pc 73 then (bif Nat.beq pc 69 then some (.goto 18, 87, 0, 0, []) else bif Nat.beq pc 72 then some (.aload_n 0, 0, 0, 0, []) else bif Nat.beq pc 73 then some (.aload_n 1, 1, 0, 0, []) else none) else (bif Nat.beq pc 74 then some (.iload 6, 6, 0, 0, []) else bif Nat.beq pc 76 then some (.invokevirtual 225, 120, 2, 0, []) else bif Nat.beq pc 79 then some (.aload_n 0, 0, 0, 0, []) else none)) else (bif Nat.ble pc 84 then (bif Nat.beq pc 80 then some (.iconst 4, 0, 0, 4, []) else bif Nat.beq pc 81 then some (.invokevirtual 120, 47, 1, 0, []) else bif Nat.beq pc 84 then some (.iinc 4 1, 4, 0, 1, []) else none) else (bif Nat.ble pc 90 then (bif Nat.beq pc 87 then some (.iinc 5 1, 5, 0, 1, []) else bif Nat.beq pc 90 then some (.goto (-84), 6, 0, 0, []) else none) else (bif Nat.beq pc 93 then some (.iload 4, 4, 0, 0, []) else bif Nat.beq pc 95 then some (.ireturn, 0, 0, 0, []) else none)))))
def p120 (pc : Nat) : Option PE := bif Nat.ble pc 17 then (bif Nat.ble pc 8 then (bif Nat.ble pc 1 then (bif Nat.beq pc 0 then some (.aload_n 0, 0, 0, 0, []) else bif Nat.beq pc 1 then some (.getfield 31, 9, 3, 0, []) else none) else (bif Nat.beq pc 4 then some (.aload_n 0, 0, 0, 0, []) else bif Nat.beq pc 5 then some (.getfield 12, 9, 0, 0, []) else bif Nat.beq pc 8 then some (.iload_n 2, 2, 0, 0, []) else none)) else (bif Nat.ble pc 12 then (bif Nat.beq pc 9 then some (.invokevirtual 211, 79, 2, 0, []) else bif Nat.beq pc 12 then some (.aload_n 1, 1, 0, 0, []) else none) else (bif Nat.beq pc 13 then some (.aload_n 0, 0, 0, 0, []) else bif Nat.beq pc 14 then some (.getfield 12, 9, 0, 0, []) else bif Nat.beq pc 17 then some (.iload_n 2, 2, 0, 0, []) else none))) else (bif Nat.ble pc 26 then (bif Nat.ble pc 19 then (bif Nat.beq pc 18 then some (.iconst 2, 0, 0, 2, []) else bif Nat.beq pc 19 then some (.invokevirtual 215, 80, 2, 0, []) else none) else (bif Nat.beq pc 22 then some (.aload_n 0, 0, 0, 0, []) else bif Nat.beq pc 23 then some (.getfield 31, 9, 3, 0, []) else bif Nat.beq pc 26 then some (.getfield 229, 3, 3, 0, []) else none)) else (bif Nat.ble pc 32 then (bif Nat.beq pc 29 then some (.invokevirtual 232, 121, 2, 0, []) else bif Nat.beq pc 32 then some (.aload_n 1, 1, 0, 0, []) else none) else (bif Nat.beq pc 33 then some (.iload_n 2, 2, 0, 0, []) else bif Nat.beq pc 34 then some (.putfield 222, 7, 6, 0, []) else bif Nat.beq pc 37 then some (.return_, 0, 0, 0, []) else none)))
def p121 (pc : Nat) : Option PE := bif Nat.ble pc 65 then (bif Nat.ble pc 30 then (bif Nat.ble pc 12 then (bif Nat.ble pc 5 then (bif Nat.ble pc 1 then (bif Nat.beq pc 0 then some (.aload_n 0, 0, 0, 0, []) else bif Nat.beq pc 1 then some (.getfield 15, 7, 1, 0, []) else none) else (bif Nat.beq pc 4 then some (.iload_n 1, 1, 0, 0, []) else bif Nat.beq pc 5 then some (.ishr, 0, 0, 0, []) else none)) else (bif Nat.ble pc 7 then (bif Nat.beq pc 6 then some (.iconst 1, 0, 0, 1, []) else bif Nat.beq pc 7 then some (.iand, 0, 0, 0, []) else none) else (bif Nat.beq pc 8 then some (.ifCond .eq 20, 28, 0, 0, []) else bif Nat.beq pc 11 then some (.aload_n 2, 2, 0, 0, []) else bif Nat.beq pc 12 then some (.arraylength, 0, 0, 0, []) else none))) else (bif Nat.ble pc 21 then (bif Nat.ble pc 14 then (bif Nat.beq pc 13 then some (.iconst 2, 0, 0, 2, []) else bif Nat.beq pc 14 then some (.if_icmp .le 14, 28, 0, 0, []) else none) else (bif Nat.beq pc 17 then some (.aload_n 0, 0, 0, 0, []) else bif Nat.beq pc 18 then some (.getfield 21, 7, 3, 0, []) else bif Nat.beq pc 21 then some (.aload_n 2, 2, 0, 0, []) else none)) else (bif Nat.ble pc 25 then (bif Nat.beq pc 22 then some (.invokevirtual 48, 83, 1, 0, []) else bif Nat.beq pc 25 then some (.ifCond .ne 4, 29, 0, 0, []) else none) else (bif Nat.beq pc 28 then some (.return_, 0, 0, 0, []) else bif Nat.beq pc 29 then some (.aload_n 0, 0, 0, 0, []) else bif Nat.beq pc 30 then some (.getfield 18, 7, 2, 0, []) else none)))) else (bif Nat.ble pc 47 then (bif Nat.ble pc 38 then (bif Nat.ble pc 36 then (bif Nat.beq pc 33 then some (.ifCond .ne 9, 42, 0, 0, []) else bif Nat.beq pc 36 then some (.aload_n 2, 2, 0, 0, []) else none) else (bif Nat.beq pc 37 then some (.iconst 2, 0, 0, 2, []) else bif Nat.beq pc 38 then some (.iaload, 20, 0, 0, []) else none)) else (bif Nat.ble pc 42 then (bif Nat.beq pc 39 then some (.goto 16, 55, 0, 0, []) else bif Nat.beq pc 42 then some (.aload_n 0, 0, 0, 0, []) else none) else (bif Nat.beq pc 43 then some (.getfield 18, 7, 2, 0, []) else bif Nat.beq pc 46 then some (.iconst 1, 0, 0, 1, []) else bif Nat.beq pc 47 then some (.if_icmp .ne 7, 54, 0, 0, []) else none))) else (bif Nat.ble pc 56 then (bif Nat.ble pc 51 then (bif Nat.beq pc 50 then some (.iload_n 1, 1, 0, 0, []) else bif Nat.beq pc 51 then some (.goto 4, 55, 0, 0, []) else none) else (bif Nat.beq pc 54 then some (.iconst 0, 0, 0, 0, []) else bif Nat.beq pc 55 then some (.istore_n 3, 3, 0, 0, []) else bif Nat.beq pc 56 then some (.iload_n 3, 3, 0, 0, []) else none)) else (bif Nat.ble pc 60 then (bif Nat.beq pc 57 then some (.ifCond .lt 12, 69, 0, 0, []) else bif Nat.beq pc 60 then some (.iload_n 3, 3, 0, 0, []) else none) else (bif Nat.beq pc 61 then some (.aload_n 0, 0, 0, 0, []) else bif Nat.beq pc 62 then some (.getfield 25, 7, 4, 0, []) else bif Nat.beq pc 65 then some (.arraylength, 0, 0, 0, []) else none))))) else (bif Nat.ble pc 96 then (bif Nat.ble pc 80 then (bif Nat.ble pc 71 then (bif Nat.ble pc 69 then (bif Nat.beq pc 66 then some (.if_icmp .lt 4, 70, 0, 0, []) else bif Nat.beq pc 69 then some (.return_, 0, 0, 0, []) else none) else (bif Nat.beq pc 70 then some (.aload_n 0, 0, 0, 0, []) else bif Nat.beq pc 71 then some (.getfield 25, 7, 4, 0, []) else none)) else (bif Nat.ble pc 75 then (bif Nat.beq pc 74 then some (.iload_n 3, 3, 0, 0, []) else bif Nat.beq pc 75 then some (.aload_n 0, 0, 0, 0, []) else none) else (bif Nat.beq pc 76 then some (.iload_n 3, 3, 0, 0, []) else bif Nat.beq pc 77 then some (.invokevirtual 54, 122, 1, 0, []) else bif Nat.beq pc 80 then some (.ifCond .eq 19, 99, 0, 0, []) else none))) else (bif Nat.ble pc 89 then (bif Nat.ble pc 84 then (bif Nat.beq pc 83 then some (.aload_n 0, 0, 0, 0, []) else bif Nat.beq pc 84 then some (.aload_n 0, 0, 0, 0, []) else none) else (bif Nat.beq pc 85 then some (.getfield 25, 7, 4, 0, []) else bif Nat.beq pc 88 then some (.iload_n 3, 3, 0, 0, []) else bif Nat.beq pc 89 then some (.iaload, 20, 0, 0, []) else none)) else (bif Nat.ble pc 91 then (bif Nat.beq pc 90 then some (.aload_n 2, 2, 0, 0, []) else bif Nat.beq pc 91 then some (.iconst 0, 0, 0, 0, []) else none) else (bif Nat.beq pc 92 then some (.iaload, 20, 0, 0, []) else bif Nat.beq pc 93 then some (.invokevirtual 58, 123, 2, 0, []) else bif Nat.beq pc 96 then some (.goto 18, 114, 0, 0, []) else none)))) else (bif Nat.ble pc 113 then (bif Nat.ble pc 104 then (bif Nat.ble pc 100 then (bif Nat.beq pc 99 then some (.aload_n 0, 0, 0, 0, []) else bif Nat.beq pc 100 then some (.getfield 9, 7, 0, 0, []) else none) else (bif Nat.beq pc 103 then some (.iconst 1, 0, 0, 1, []) else bif Nat.beq pc 104 then some (.if_icmp .ne 7, 111, 0, 0, []) else none)) else (bif Nat.ble pc 108 then (bif Nat.beq pc 107 then some (.iconst 1, 0, 0, 1, []) else bif Nat.beq pc 108 then some (.goto 6, 114, 0, 0, []) else none) else (bif Nat.beq pc 111 then some (.aload_n 2, 2, 0, 0, []) else bif Nat.beq pc 112 then some (.iconst 0, 0, 0, 0, []) else bif Nat.beq pc 113 then some (.iaload, 20, 0, 0, []) else none))) else (bif Nat.ble pc 120 then (bif Nat.ble pc 115 then (bif Nat.beq pc 114 then some (.iastore, 0, 0, 0, []) else bif Nat.beq pc 115 then some (.aload_n 0, 0, 0, 0, []) else none) else (bif Nat.beq pc 116 then some (.dup, 0, 0, 0, []) else bif Nat.beq pc 117 then some (.getfield 42, 7, 5, 0, []) else bif Nat.beq pc 120 then some (.iconst 1, 0, 0, 1, []) else none)) else (bif Nat.ble pc 122 then (bif Nat.beq pc 121 then some (.iload_n 3, 3, 0, 0, []) else bif Nat.beq pc 122 then some (.ishl, 0, 0, 0, []) else none) else (bif Nat.beq pc 123 then some (.ior, 0, 0, 0, []) else bif Nat.beq pc 124 then some (.putfield 42, 7, 5, 0, []) else bif Nat.beq pc 127 then some (.return_, 0, 0, 0, []) else none)))))
def p122 (pc : Nat) : Option PE := bif Nat.ble pc 14 then (bif Nat.ble pc 5 then (bif Nat.ble pc 1 then (bif Nat.beq pc 0 then some (.iload_n 1, 1, 0, 0, []) else bif Nat.beq pc 1 then some (.ifCond .lt 28, 29, 0, 0, []) else none) else (bif Nat.beq pc 4 then some (.iload_n 1, 1, 0, 0, []) else bif Nat.beq pc 5 then some (.aload_n 0, 0, 0, 0, []) else none)) else (bif Nat.ble pc 9 then (bif Nat.beq pc 6 then some (.getfield 25, 7, 4, 0, []) else bif Nat.beq pc 9 then some (.arraylength, 0, 0, 0, []) else none) else (bif Nat.beq pc 10 then some (.if_icmp .ge 19, 29, 0, 0, []) else bif Nat.beq pc 13 then some (.aload_n 0, 0, 0, 0, []) else bif Nat.beq pc 14 then some (.getfield 42, 7, 5, 0, []) else none))) else (bif Nat.ble pc 21 then (bif Nat.ble pc 18 then (bif Nat.beq pc 17 then some (.iload_n 1, 1, 0, 0, []) else bif Nat.beq pc 18 then some (.ishr, 0, 0, 0, []) else none) else (bif Nat.beq pc 19 then some (.iconst 1, 0, 0, 1, []) else bif Nat.beq pc 20 then some (.iand, 0, 0, 0, []) else bif Nat.beq pc 21 then some (.iconst 1, 0, 0, 1, []) else none)) else (bif Nat.ble pc 25 then (bif Nat.beq pc 22 then some (.if_icmp .ne 7, 29, 0, 0, []) else bif Nat.beq pc 25 then some (.iconst 1, 0, 0, 1, []) else none) else (bif Nat.beq pc 26 then some (.goto 4, 30, 0, 0, []) else bif Nat.beq pc 29 then some (.iconst 0, 0, 0, 0, []) else bif Nat.beq pc 30 then some (.ireturn, 0, 0, 0, []) else none)))
def p123 (pc : Nat) : Option PE := bif Nat.ble pc 47 then (bif Nat.ble pc 41 then (bif Nat.ble pc 1 then (bif Nat.beq pc 0 then some (.aload_n 0, 0, 0, 0, []) else bif Nat.beq pc 1 then some (.getfield 9, 7, 0, 0, []) else none) else (bif Nat.beq pc 4 then some (.tableswitch 58 0 4 #[36, 40, 44, 50, 56], 62, 0, 0, [40, 44, 48, 54, 60]) else bif Nat.beq pc 40 then some (.iload_n 1, 1, 0, 0, []) else bif Nat.beq pc 41 then some (.iload_n 2, 2, 0, 0, []) else none)) else (bif Nat.ble pc 44 then (bif Nat.beq pc 42 then some (.iadd, 0, 0, 0, []) else bif Nat.beq pc 43 then some (.ireturn, 0, 0, 0, []) else bif Nat.beq pc 44 then some (.iload_n 1, 1, 0, 0, []) else none) else (bif Nat.beq pc 45 then some (.iconst 1, 0, 0, 1, []) else bif Nat.beq pc 46 then some (.iadd, 0, 0, 0, []) else bif Nat.beq pc 47 then some (.ireturn, 0, 0, 0, []) else none))) else (bif Nat.ble pc 55 then (bif Nat.ble pc 50 then (bif Nat.beq pc 48 then some (.iload_n 1, 1, 0, 0, []) else bif Nat.beq pc 49 then some (.iload_n 2, 2, 0, 0, []) else bif Nat.beq pc 50 then some (.invokestatic 62, 39, 2, 0, []) else none) else (bif Nat.beq pc 53 then some (.ireturn, 0, 0, 0, []) else bif Nat.beq pc 54 then some (.iload_n 1, 1, 0, 0, []) else bif Nat.beq pc 55 then some (.iload_n 2, 2, 0, 0, []) else none)) else (bif Nat.ble pc 60 then (bif Nat.beq pc 56 then some (.invokestatic 67, 40, 2, 0, []) else bif Nat.beq pc 59 then some (.ireturn, 0, 0, 0, []) else bif Nat.beq pc 60 then some (.iload_n 1, 1, 0, 0, []) else none) else (bif Nat.beq pc 61 then some (.ireturn, 0, 0, 0, []) else bif Nat.beq pc 62 then some (.iload_n 2, 2, 0, 0, []) else bif Nat.beq pc 63 then some (.ireturn, 0, 0, 0, []) else none)))
def p124 (pc : Nat) : Option PE := bif Nat.ble pc 34 then (bif Nat.ble pc 17 then (bif Nat.ble pc 8 then (bif Nat.ble pc 1 then (bif Nat.beq pc 0 then some (.iload_n 1, 1, 0, 0, []) else bif Nat.beq pc 1 then some (.invokestatic 185, 110, 1, 0, []) else none) else (bif Nat.beq pc 4 then some (.ifCond .ne 5, 9, 0, 0, []) else bif Nat.beq pc 7 then some (.iconst (-1), 0, 0, -1, []) else bif Nat.beq pc 8 then some (.ireturn, 0, 0, 0, []) else none)) else (bif Nat.ble pc 10 then (bif Nat.beq pc 9 then some (.aload_n 0, 0, 0, 0, []) else bif Nat.beq pc 10 then some (.getfield 28, 11, 2, 0, []) else none) else (bif Nat.beq pc 13 then some (.getfield 196, 9, 7, 0, []) else bif Nat.beq pc 16 then some (.iload_n 1, 1, 0, 0, []) else bif Nat.beq pc 17 then some (.aaload, 0, 0, 0, []) else none))) else (bif Nat.ble pc 26 then (bif Nat.ble pc 19 then (bif Nat.beq pc 18 then some (.astore_n 2, 2, 0, 0, []) else bif Nat.beq pc 19 then some (.aload_n 0, 0, 0, 0, []) else none) else (bif Nat.beq pc 20 then some (.getfield 28, 11, 2, 0, []) else bif Nat.beq pc 23 then some (.getfield 192, 9, 6, 0, []) else bif Nat.beq pc 26 then some (.iload_n 1, 1, 0, 0, []) else none)) else (bif Nat.ble pc 29 then (bif Nat.beq pc 27 then some (.aaload, 0, 0, 0, []) else bif Nat.beq pc 28 then some (.astore_n 3, 3, 0, 0, []) else bif Nat.beq pc 29 then some (.aload_n 2, 2, 0, 0, []) else none) else (bif Nat.beq pc 30 then some (.ifnull 18, 48, 0, 0, []) else bif Nat.beq pc 33 then some (.aload_n 3, 3, 0, 0, []) else bif Nat.beq pc 34 then some (.ifnull 17, 51, 0, 0, []) else none)))) else (bif Nat.ble pc 58 then (bif Nat.ble pc 45 then (bif Nat.ble pc 38 then (bif Nat.beq pc 37 then some (.aload_n 2, 2, 0, 0, []) else bif Nat.beq pc 38 then some (.getfield 213, 7, 6, 0, []) else none) else (bif Nat.beq pc 41 then some (.aload_n 3, 3, 0, 0, []) else bif Nat.beq pc 42 then some (.getfield 213, 7, 6, 0, []) else bif Nat.beq pc 45 then some (.if_icmp .ge 6, 51, 0, 0, []) else none)) else (bif Nat.ble pc 51 then (bif Nat.beq pc 48 then some (.bipush (-5), 0, 0, -5, []) else bif Nat.beq pc 50 then some (.ireturn, 0, 0, 0, []) else bif Nat.beq pc 51 then some (.aload_n 0, 0, 0, 0, []) else none) else (bif Nat.beq pc 52 then some (.getfield 28, 11, 2, 0, []) else bif Nat.beq pc 55 then some (.getfield 192, 9, 6, 0, []) else bif Nat.beq pc 58 then some (.iload_n 1, 1, 0, 0, []) else none))) else (bif Nat.ble pc 65 then (bif Nat.ble pc 60 then (bif Nat.beq pc 59 then some (.aload_n 2, 2, 0, 0, []) else bif Nat.beq pc 60 then some (.aastore, 0, 0, 0, []) else none) else (bif Nat.beq pc 61 then some (.aload_n 0, 0, 0, 0, []) else bif Nat.beq pc 62 then some (.getfield 28, 11, 2, 0, []) else bif Nat.beq pc 65 then some (.getfield 196, 9, 7, 0, []) else none)) else (bif Nat.ble pc 70 then (bif Nat.beq pc 68 then some (.iload_n 1, 1, 0, 0, []) else bif Nat.beq pc 69 then some (.aconst_null, 0, 0, 0, []) else bif Nat.beq pc 70 then some (.aastore, 0, 0, 0, []) else none) else (bif Nat.beq pc 71 then some (.aload_n 2, 2, 0, 0, []) else bif Nat.beq pc 72 then some (.getfield 213, 7, 6, 0, []) else bif Nat.beq pc 75 then some (.ireturn, 0, 0, 0, []) else none))))
def p125 (pc : Nat) : Option PE := bif Nat.ble pc 47 then (bif Nat.ble pc 22 then (bif Nat.ble pc 9 then (bif Nat.ble pc 4 then (bif Nat.beq pc 0 then some (.iload_n 1, 1, 0, 0, []) else bif Nat.beq pc 1 then some (.invokestatic 185, 110, 1, 0, []) else bif Nat.beq pc 4 then some (.ifCond .eq 21, 25, 0, 0, []) else none) else (bif Nat.beq pc 7 then some (.iload_n 2, 2, 0, 0, []) else bif Nat.beq pc 8 then some (.iconst 0, 0, 0, 0, []) else bif Nat.beq pc 9 then some (.iconst 1, 0, 0, 1, []) else none)) else (bif Nat.ble pc 16 then (bif Nat.beq pc 10 then some (.invokestatic 39, 12, 3, 0, []) else bif Nat.beq pc 13 then some (.ifCond .eq 12, 25, 0, 0, []) else bif Nat.beq pc 16 then some (.iload_n 3, 3, 0, 0, []) else none) else (bif Nat.ble pc 18 then (bif Nat.beq pc 17 then some (.iconst 0, 0, 0, 0, []) else bif Nat.beq pc 18 then some (.iconst 4, 0, 0, 4, []) else none) else (bif Nat.beq pc 19 then some (.invokestatic 39, 12, 3, 0, []) else bif Nat.beq pc 22 then some (.ifCond .ne 6, 28, 0, 0, []) else none)))) else (bif Nat.ble pc 33 then (bif Nat.ble pc 28 then (bif Nat.beq pc 25 then some (.ldc 94, 0, 0, -2000000000, []) else bif Nat.beq pc 27 then some (.ireturn, 0, 0, 0, []) else bif Nat.beq pc 28 then some (.aload_n 0, 0, 0, 0, []) else none) else (bif Nat.beq pc 29 then some (.getfield 28, 11, 2, 0, []) else bif Nat.beq pc 32 then some (.iload_n 1, 1, 0, 0, []) else bif Nat.beq pc 33 then some (.iload_n 2, 2, 0, 0, []) else none)) else (bif Nat.ble pc 39 then (bif Nat.beq pc 34 then some (.invokevirtual 205, 118, 2, 0, []) else bif Nat.beq pc 37 then some (.astore 4, 4, 0, 0, []) else bif Nat.beq pc 39 then some (.aload 4, 4, 0, 0, []) else none) else (bif Nat.ble pc 44 then (bif Nat.beq pc 41 then some (.ifnonnull 6, 47, 0, 0, []) else bif Nat.beq pc 44 then some (.ldc 94, 0, 0, -2000000000, []) else none) else (bif Nat.beq pc 46 then some (.ireturn, 0, 0, 0, []) else bif Nat.beq pc 47 then some (.iload_n 3, 3, 0, 0, []) else none))))) else (bif Nat.ble pc 104 then (bif Nat.ble pc 88 then (bif Nat.ble pc 82 then (bif Nat.beq pc 48 then some (.tableswitch 79 0 3 #[32, 38, 44, 61], 127, 0, 0, [80, 86, 92, 109]) else bif Nat.beq pc 80 then some (.aload 4, 4, 0, 0, []) else bif Nat.beq pc 82 then some (.getfield 213, 7, 6, 0, []) else none) else (bif Nat.beq pc 85 then some (.ireturn, 0, 0, 0, []) else bif Nat.beq pc 86 then some (.aload 4, 4, 0, 0, []) else bif Nat.beq pc 88 then some (.invokevirtual 216, 126, 0, 0, []) else none)) else (bif Nat.ble pc 93 then (bif Nat.beq pc 91 then some (.ireturn, 0, 0, 0, []) else bif Nat.beq pc 92 then some (.aload_n 0, 0, 0, 0, []) else bif Nat.beq pc 93 then some (.getfield 28, 11, 2, 0, []) else none) else (bif Nat.ble pc 99 then (bif Nat.beq pc 96 then some (.getfield 95, 9, 0, 0, []) else bif Nat.beq pc 99 then some (.getfield 176, 5, 4, 0, []) else none) else (bif Nat.beq pc 102 then some (.aload 4, 4, 0, 0, []) else bif Nat.beq pc 104 then some (.getfield 213, 7, 6, 0, []) else none)))) else (bif Nat.ble pc 118 then (bif Nat.ble pc 109 then (bif Nat.beq pc 107 then some (.isub, 0, 0, 0, []) else bif Nat.beq pc 108 then some (.ireturn, 0, 0, 0, []) else bif Nat.beq pc 109 then some (.aload_n 0, 0, 0, 0, []) else none) else (bif Nat.ble pc 113 then (bif Nat.beq pc 110 then some (.getfield 28, 11, 2, 0, []) else bif Nat.beq pc 113 then some (.aload 4, 4, 0, 0, []) else none) else (bif Nat.beq pc 115 then some (.invokevirtual 219, 128, 1, 0, []) else bif Nat.beq pc 118 then some (.ifCond .eq 7, 125, 0, 0, []) else none))) else (bif Nat.ble pc 125 then (bif Nat.beq pc 121 then some (.iconst 1, 0, 0, 1, []) else bif Nat.beq pc 122 then some (.goto 4, 126, 0, 0, []) else bif Nat.beq pc 125 then some (.iconst 0, 0, 0, 0, []) else none) else (bif Nat.ble pc 127 then (bif Nat.beq pc 126 then some (.ireturn, 0, 0, 0, []) else bif Nat.beq pc 127 then some (.aload 4, 4, 0, 0, []) else none) else (bif Nat.beq pc 129 then some (.invokevirtual 223, 130, 0, 0, []) else bif Nat.beq pc 132 then some (.ireturn, 0, 0, 0, []) else none)))))
def p126 (pc : Nat) : Option PE := bif Nat.ble pc 1 then (bif Nat.beq pc 0 then some (.aload_n 0, 0, 0, 0, []) else bif Nat.beq pc 1 then some (.getfield 42, 7, 5, 0, []) else none) else (bif Nat.beq pc 4 then some (.invokestatic 70, 127, 1, 0, []) else bif Nat.beq pc 7 then some (.ireturn, 0, 0, 0, []) else none)
def p127 (pc : Nat) : Option PE := bif Nat.ble pc 26 then (bif Nat.ble pc 11 then (bif Nat.ble pc 4 then (bif Nat.ble pc 1 then (bif Nat.beq pc 0 then some (.iload_n 0, 0, 0, 0, []) else bif Nat.beq pc 1 then some (.iload_n 0, 0, 0, 0, []) else none) else (bif Nat.beq pc 2 then some (.iconst 1, 0, 0, 1, []) else bif Nat.beq pc 3 then some (.iushr, 0, 0, 0, []) else bif Nat.beq pc 4 then some (.ldc_w 265, 0, 0, 1431655765, []) else none)) else (bif Nat.ble pc 8 then (bif Nat.beq pc 7 then some (.iand, 0, 0, 0, []) else bif Nat.beq pc 8 then some (.isub, 0, 0, 0, []) else none) else (bif Nat.beq pc 9 then some (.istore_n 0, 0, 0, 0, []) else bif Nat.beq pc 10 then some (.iload_n 0, 0, 0, 0, []) else bif Nat.beq pc 11 then some (.ldc_w 266, 0, 0, 858993459, []) else none))) else (bif Nat.ble pc 18 then (bif Nat.ble pc 15 then (bif Nat.beq pc 14 then some (.iand, 0, 0, 0, []) else bif Nat.beq pc 15 then some (.iload_n 0, 0, 0, 0, []) else none) else (bif Nat.beq pc 16 then some (.iconst 2, 0, 0, 2, []) else bif Nat.beq pc 17 then some (.iushr, 0, 0, 0, []) else bif Nat.beq pc 18 then some (.ldc_w 266, 0, 0, 858993459, []) else none)) else (bif Nat.ble pc 23 then (bif Nat.beq pc 21 then some (.iand, 0, 0, 0, []) else bif Nat.beq pc 22 then some (.iadd, 0, 0, 0, []) else bif Nat.beq pc 23 then some (.istore_n 0, 0, 0, 0, []) else none) else (bif Nat.beq pc 24 then some (.iload_n 0, 0, 0, 0, []) else bif Nat.beq pc 25 then some (.iload_n 0, 0, 0, 0, []) else bif Nat.beq pc 26 then some (.iconst 4, 0, 0, 4, []) else none)))) else (bif Nat.ble pc 39 then (bif Nat.ble pc 33 then (bif Nat.ble pc 28 then (bif Nat.beq pc 27 then some (.iushr, 0, 0, 0, []) else bif Nat.beq pc 28 then some (.iadd, 0, 0, 0, []) else none) else (bif Nat.beq pc 29 then some (.ldc_w 267, 0, 0, 252645135, []) else bif Nat.beq pc 32 then some (.iand, 0, 0, 0, []) else bif Nat.beq pc 33 then some (.istore_n 0, 0, 0, 0, []) else none)) else (bif Nat.ble pc 35 then (bif Nat.beq pc 34 then some (.iload_n 0, 0, 0, 0, []) else bif Nat.beq pc 35 then some (.iload_n 0, 0, 0, 0, []) else none) else (bif Nat.beq pc 36 then some (.bipush 8, 0, 0, 8, []) else bif Nat.beq pc 38 then some (.iushr, 0, 0, 0, []) else bif Nat.beq pc 39 then some (.iadd, 0, 0, 0, []) else none))) else (bif Nat.ble pc 45 then (bif Nat.ble pc 41 then (bif Nat.beq pc 40 then some (.istore_n 0, 0, 0, 0, []) else bif Nat.beq pc 41 then some (.iload_n 0, 0, 0, 0, []) else none) else (bif Nat.beq pc 42 then some (.iload_n 0, 0, 0, 0, []) else bif Nat.beq pc 43 then some (.bipush 16, 0, 0, 16, []) else bif Nat.beq pc 45 then some (.iushr, 0, 0, 0, []) else none)) else (bif Nat.ble pc 48 then (bif Nat.beq pc 46 then some (.iadd, 0, 0, 0, []) else bif Nat.beq pc 47 then some (.istore_n 0, 0, 0, 0, []) else bif Nat.beq pc 48 then some (.iload_n 0, 0, 0, 0, []) else none) else (bif Nat.beq pc 49 then some (.bipush 63, 0, 0, 63, []) else bif Nat.beq pc 51 then some (.iand, 0, 0, 0, []) else bif Nat.beq pc 52 then some (.ireturn, 0, 0, 0, []) else none))))
def p128 (pc : Nat) : Option PE := bif Nat.ble pc 17 then (bif Nat.ble pc 7 then (bif Nat.ble pc 4 then (bif Nat.beq pc 0 then some (.aload_n 1, 1, 0, 0, []) else bif Nat.beq pc 1 then some (.invokevirtual 235, 116, 0, 0, []) else bif Nat.beq pc 4 then some (.astore_n 2, 2, 0, 0, []) else none) else (bif Nat.beq pc 5 then some (.iconst 1, 0, 0, 1, []) else bif Nat.beq pc 6 then some (.istore_n 3, 3, 0, 0, []) else bif Nat.beq pc 7 then some (.iload_n 3, 3, 0, 0, []) else none)) else (bif Nat.ble pc 12 then (bif Nat.beq pc 8 then some (.aload_n 1, 1, 0, 0, []) else bif Nat.beq pc 9 then some (.getfield 222, 7, 6, 0, []) else bif Nat.beq pc 12 then some (.if_icmp .gt 26, 38, 0, 0, []) else none) else (bif Nat.beq pc 15 then some (.iload_n 3, 3, 0, 0, []) else bif Nat.beq pc 16 then some (.aload_n 0, 0, 0, 0, []) else bif Nat.beq pc 17 then some (.getfield 12, 9, 0, 0, []) else none))) else (bif Nat.ble pc 29 then (bif Nat.ble pc 26 then (bif Nat.beq pc 20 then some (.getfield 200, 5, 4, 0, []) else bif Nat.beq pc 23 then some (.if_icmp .gt 15, 38, 0, 0, []) else bif Nat.beq pc 26 then some (.aload_n 0, 0, 0, 0, []) else none) else (bif Nat.beq pc 27 then some (.aload_n 2, 2, 0, 0, []) else bif Nat.beq pc 28 then some (.iload_n 3, 3, 0, 0, []) else bif Nat.beq pc 29 then some (.invokevirtual 225, 120, 2, 0, []) else none)) else (bif Nat.ble pc 38 then (bif Nat.beq pc 32 then some (.iinc 3 1, 3, 0, 1, []) else bif Nat.beq pc 35 then some (.goto (-28), 7, 0, 0, []) else bif Nat.beq pc 38 then some (.aload_n 1, 1, 0, 0, []) else none) else (bif Nat.beq pc 39 then some (.aload_n 2, 2, 0, 0, []) else bif Nat.beq pc 40 then some (.invokevirtual 238, 129, 1, 0, []) else bif Nat.beq pc 43 then some (.ireturn, 0, 0, 0, []) else none)))
def p129 (pc : Nat) : Option PE := bif Nat.ble pc 30 then (bif Nat.ble pc 12 then (bif Nat.ble pc 3 then (bif Nat.ble pc 1 then (bif Nat.beq pc 0 then some (.iconst 0, 0, 0, 0, []) else bif Nat.beq pc 1 then some (.istore_n 2, 2, 0, 0, []) else none) else (bif Nat.beq pc 2 then some (.iload_n 2, 2, 0, 0, []) else bif Nat.beq pc 3 then some (.aload_n 0, 0, 0, 0, []) else none)) else (bif Nat.ble pc 7 then (bif Nat.beq pc 4 then some (.getfield 25, 7, 4, 0, []) else bif Nat.beq pc 7 then some (.arraylength, 0, 0, 0, []) else none) else (bif Nat.beq pc 8 then some (.if_icmp .ge 56, 64, 0, 0, []) else bif Nat.beq pc 11 then some (.iload_n 2, 2, 0, 0, []) else bif Nat.beq pc 12 then some (.aload_n 1, 1, 0, 0, []) else none))) else (bif Nat.ble pc 21 then (bif Nat.ble pc 16 then (bif Nat.beq pc 13 then some (.getfield 25, 7, 4, 0, []) else bif Nat.beq pc 16 then some (.arraylength, 0, 0, 0, []) else none) else (bif Nat.beq pc 17 then some (.if_icmp .ge 47, 64, 0, 0, []) else bif Nat.beq pc 20 then some (.aload_n 0, 0, 0, 0, []) else bif Nat.beq pc 21 then some (.iload_n 2, 2, 0, 0, []) else none)) else (bif Nat.ble pc 25 then (bif Nat.beq pc 22 then some (.invokevirtual 54, 122, 1, 0, []) else bif Nat.beq pc 25 then some (.aload_n 1, 1, 0, 0, []) else none) else (bif Nat.beq pc 26 then some (.iload_n 2, 2, 0, 0, []) else bif Nat.beq pc 27 then some (.invokevirtual 54, 122, 1, 0, []) else bif Nat.beq pc 30 then some (.if_icmp .ne 26, 56, 0, 0, []) else none)))) else (bif Nat.ble pc 47 then (bif Nat.ble pc 38 then (bif Nat.ble pc 34 then (bif Nat.beq pc 33 then some (.aload_n 0, 0, 0, 0, []) else bif Nat.beq pc 34 then some (.iload_n 2, 2, 0, 0, []) else none) else (bif Nat.beq pc 35 then some (.invokevirtual 54, 122, 1, 0, []) else bif Nat.beq pc 38 then some (.ifCond .eq 20, 58, 0, 0, []) else none)) else (bif Nat.ble pc 42 then (bif Nat.beq pc 41 then some (.aload_n 0, 0, 0, 0, []) else bif Nat.beq pc 42 then some (.getfield 25, 7, 4, 0, []) else none) else (bif Nat.beq pc 45 then some (.iload_n 2, 2, 0, 0, []) else bif Nat.beq pc 46 then some (.iaload, 20, 0, 0, []) else bif Nat.beq pc 47 then some (.aload_n 1, 1, 0, 0, []) else none))) else (bif Nat.ble pc 56 then (bif Nat.ble pc 51 then (bif Nat.beq pc 48 then some (.getfield 25, 7, 4, 0, []) else bif Nat.beq pc 51 then some (.iload_n 2, 2, 0, 0, []) else none) else (bif Nat.beq pc 52 then some (.iaload, 20, 0, 0, []) else bif Nat.beq pc 53 then some (.if_icmp .eq 5, 58, 0, 0, []) else bif Nat.beq pc 56 then some (.iconst 0, 0, 0, 0, []) else none)) else (bif Nat.ble pc 58 then (bif Nat.beq pc 57 then some (.ireturn, 0, 0, 0, []) else bif Nat.beq pc 58 then some (.iinc 2 1, 2, 0, 1, []) else none) else (bif Nat.beq pc 61 then some (.goto (-59), 2, 0, 0, []) else bif Nat.beq pc 64 then some (.iconst 1, 0, 0, 1, []) else bif Nat.beq pc 65 then some (.ireturn, 0, 0, 0, []) else none))))
def p130 (pc : Nat) : Option PE := bif Nat.ble pc 16 then (bif Nat.ble pc 5 then (bif Nat.ble pc 2 then (bif Nat.beq pc 0 then some (.iconst 0, 0, 0, 0, []) else bif Nat.beq pc 1 then some (.istore_n 1, 1, 0, 0, []) else bif Nat.beq pc 2 then some (.iconst 0, 0, 0, 0, []) else none) else (bif Nat.beq pc 3 then some (.istore_n 2, 2, 0, 0, []) else bif Nat.beq pc 4 then some (.iload_n 2, 2, 0, 0, []) else bif Nat.beq pc 5 then some (.aload_n 0, 0, 0, 0, []) else none)) else (bif Nat.ble pc 10 then (bif Nat.beq pc 6 then some (.getfield 25, 7, 4, 0, []) else bif Nat.beq pc 9 then some (.arraylength, 0, 0, 0, []) else bif Nat.beq pc 10 then some (.if_icmp .ge 30, 40, 0, 0, []) else none) else (bif Nat.ble pc 14 then (bif Nat.beq pc 13 then some (.iload_n 1, 1, 0, 0, []) else bif Nat.beq pc 14 then some (.aload_n 0, 0, 0, 0, []) else none) else (bif Nat.beq pc 15 then some (.iload_n 2, 2, 0, 0, []) else bif Nat.beq pc 16 then some (.invokevirtual 54, 122, 1, 0, []) else none)))) else (bif Nat.ble pc 28 then (bif Nat.ble pc 23 then (bif Nat.beq pc 19 then some (.ifCond .eq 12, 31, 0, 0, []) else bif Nat.beq pc 22 then some (.aload_n 0, 0, 0, 0, []) else bif Nat.beq pc 23 then some (.getfield 25, 7, 4, 0, []) else none) else (bif Nat.beq pc 26 then some (.iload_n 2, 2, 0, 0, []) else bif Nat.beq pc 27 then some (.iaload, 20, 0, 0, []) else bif Nat.beq pc 28 then some (.goto 4, 32, 0, 0, []) else none)) else (bif Nat.ble pc 33 then (bif Nat.beq pc 31 then some (.iconst 0, 0, 0, 0, []) else bif Nat.beq pc 32 then some (.iadd, 0, 0, 0, []) else bif Nat.beq pc 33 then some (.istore_n 1, 1, 0, 0, []) else none) else (bif Nat.ble pc 37 then (bif Nat.beq pc 34 then some (.iinc 2 1, 2, 0, 1, []) else bif Nat.beq pc 37 then some (.goto (-33), 4, 0, 0, []) else none) else (bif Nat.beq pc 40 then some (.iload_n 1, 1, 0, 0, []) else bif Nat.beq pc 41 then some (.ireturn, 0, 0, 0, []) else none))))
def p131 (pc : Nat) : Option PE := bif Nat.ble pc 30 then (bif Nat.ble pc 13 then (bif Nat.ble pc 7 then (bif Nat.ble pc 1 then (bif Nat.beq pc 0 then some (.iload_n 1, 1, 0, 0, []) else bif Nat.beq pc 1 then some (.invokestatic 185, 110, 1, 0, []) else none) else (bif Nat.beq pc 4 then some (.ifCond .eq 22, 26, 0, 0, []) else bif Nat.beq pc 7 then some (.iload_n 2, 2, 0, 0, []) else none)) else (bif Nat.ble pc 9 then (bif Nat.beq pc 8 then some (.iconst 0, 0, 0, 0, []) else bif Nat.beq pc 9 then some (.iconst 1, 0, 0, 1, []) else none) else (bif Nat.beq pc 10 then some (.invokestatic 39, 12, 3, 0, []) else bif Nat.beq pc 13 then some (.ifCond .eq 13, 26, 0, 0, []) else none))) else (bif Nat.ble pc 20 then (bif Nat.ble pc 17 then (bif Nat.beq pc 16 then some (.iload_n 3, 3, 0, 0, []) else bif Nat.beq pc 17 then some (.iconst 0, 0, 0, 0, []) else none) else (bif Nat.beq pc 18 then some (.bipush 8, 0, 0, 8, []) else bif Nat.beq pc 20 then some (.invokestatic 39, 12, 3, 0, []) else none)) else (bif Nat.ble pc 26 then (bif Nat.beq pc 23 then some (.ifCond .ne 6, 29, 0, 0, []) else bif Nat.beq pc 26 then some (.ldc 94, 0, 0, -2000000000, []) else none) else (bif Nat.beq pc 28 then some (.ireturn, 0, 0, 0, []) else bif Nat.beq pc 29 then some (.aload_n 0, 0, 0, 0, []) else bif Nat.beq pc 30 then some (.getfield 28, 11, 2, 0, []) else none)))) else (bif Nat.ble pc 47 then (bif Nat.ble pc 38 then (bif Nat.ble pc 34 then (bif Nat.beq pc 33 then some (.iload_n 1, 1, 0, 0, []) else bif Nat.beq pc 34 then some (.iload_n 2, 2, 0, 0, []) else none) else (bif Nat.beq pc 35 then some (.invokevirtual 205, 118, 2, 0, []) else bif Nat.beq pc 38 then some (.astore 4, 4, 0, 0, []) else none)) else (bif Nat.ble pc 42 then (bif Nat.beq pc 40 then some (.aload 4, 4, 0, 0, []) else bif Nat.beq pc 42 then some (.ifnull 22, 64, 0, 0, []) else none) else (bif Nat.beq pc 45 then some (.aload 4, 4, 0, 0, []) else bif Nat.beq pc 47 then some (.iload_n 3, 3, 0, 0, []) else none))) else (bif Nat.ble pc 56 then (bif Nat.ble pc 51 then (bif Nat.beq pc 48 then some (.invokevirtual 226, 122, 1, 0, []) else bif Nat.beq pc 51 then some (.ifCond .eq 13, 64, 0, 0, []) else none) else (bif Nat.beq pc 54 then some (.aload 4, 4, 0, 0, []) else bif Nat.beq pc 56 then some (.getfield 227, 7, 4, 0, []) else none)) else (bif Nat.ble pc 60 then (bif Nat.beq pc 59 then some (.iload_n 3, 3, 0, 0, []) else bif Nat.beq pc 60 then some (.iaload, 20, 0, 0, []) else none) else (bif Nat.beq pc 61 then some (.goto 5, 66, 0, 0, []) else bif Nat.beq pc 64 then some (.ldc 94, 0, 0, -2000000000, []) else bif Nat.beq pc 66 then some (.ireturn, 0, 0, 0, []) else none))))
def p132 (pc : Nat) : Option PE := bif Nat.ble pc 33 then (bif Nat.ble pc 16 then (bif Nat.ble pc 7 then (bif Nat.ble pc 1 then (bif Nat.beq pc 0 then some (.iload_n 1, 1, 0, 0, []) else bif Nat.beq pc 1 then some (.invokestatic 185, 110, 1, 0, []) else none) else (bif Nat.beq pc 4 then some (.ifCond .ne 5, 9, 0, 0, []) else bif Nat.beq pc 7 then some (.iconst (-1), 0, 0, -1, []) else none)) else (bif Nat.ble pc 9 then (bif Nat.beq pc 8 then some (.ireturn, 0, 0, 0, []) else bif Nat.beq pc 9 then some (.aload_n 0, 0, 0, 0, []) else none) else (bif Nat.beq pc 10 then some (.getfield 14, 11, 0, 0, []) else bif Nat.beq pc 13 then some (.invokevirtual 51, 16, 0, 0, []) else bif Nat.beq pc 16 then some (.aload_n 0, 0, 0, 0, []) else none))) else (bif Nat.ble pc 24 then (bif Nat.ble pc 20 then (bif Nat.beq pc 17 then some (.getfield 14, 11, 0, 0, []) else bif Nat.beq pc 20 then some (.invokevirtual 231, 133, 0, 0, []) else none) else (bif Nat.beq pc 23 then some (.astore_n 2, 2, 0, 0, []) else bif Nat.beq pc 24 then some (.aload_n 0, 0, 0, 0, []) else none)) else (bif Nat.ble pc 28 then (bif Nat.beq pc 25 then some (.getfield 14, 11, 0, 0, []) else bif Nat.beq pc 28 then some (.invokevirtual 58, 45, 0, 0, []) else none) else (bif Nat.beq pc 31 then some (.istore_n 3, 3, 0, 0, []) else bif Nat.beq pc 32 then some (.iload_n 3, 3, 0, 0, []) else bif Nat.beq pc 33 then some (.ifCond .lt 8, 41, 0, 0, []) else none)))) else (bif Nat.ble pc 49 then (bif Nat.ble pc 40 then (bif Nat.ble pc 38 then (bif Nat.beq pc 36 then some (.bipush (-100), 0, 0, -100, []) else bif Nat.beq pc 38 then some (.iload_n 3, 3, 0, 0, []) else none) else (bif Nat.beq pc 39 then some (.isub, 0, 0, 0, []) else bif Nat.beq pc 40 then some (.ireturn, 0, 0, 0, []) else none)) else (bif Nat.ble pc 42 then (bif Nat.beq pc 41 then some (.aload_n 2, 2, 0, 0, []) else bif Nat.beq pc 42 then some (.aload_n 0, 0, 0, 0, []) else none) else (bif Nat.beq pc 43 then some (.getfield 28, 11, 2, 0, []) else bif Nat.beq pc 46 then some (.getfield 95, 9, 0, 0, []) else bif Nat.beq pc 49 then some (.getfield 176, 5, 4, 0, []) else none))) else (bif Nat.ble pc 59 then (bif Nat.ble pc 55 then (bif Nat.beq pc 52 then some (.putfield 235, 6, 3, 0, []) else bif Nat.beq pc 55 then some (.aload_n 0, 0, 0, 0, []) else none) else (bif Nat.beq pc 56 then some (.getfield 28, 11, 2, 0, []) else bif Nat.beq pc 59 then some (.getfield 238, 9, 8, 0, []) else none)) else (bif Nat.ble pc 63 then (bif Nat.beq pc 62 then some (.iload_n 1, 1, 0, 0, []) else bif Nat.beq pc 63 then some (.aload_n 2, 2, 0, 0, []) else none) else (bif Nat.beq pc 64 then some (.aastore, 0, 0, 0, []) else bif Nat.beq pc 65 then some (.iconst 1, 0, 0, 1, []) else bif Nat.beq pc 66 then some (.ireturn, 0, 0, 0, []) else none))))
def p133 (pc : Nat) : Option PE := bif Nat.ble pc 43 then (bif Nat.ble pc 18 then (bif Nat.ble pc 7 then (bif Nat.ble pc 1 then (bif Nat.beq pc 0 then some (.aload_n 0, 0, 0, 0, []) else bif Nat.beq pc 1 then some (.ldc 162, 1, 37, 0, []) else none) else (bif Nat.beq pc 3 then some (.invokevirtual 110, 18, 1, 0, []) else bif Nat.beq pc 6 then some (.pop, 0, 0, 0, []) else bif Nat.beq pc 7 then some (.aload_n 0, 0, 0, 0, []) else none)) else (bif Nat.ble pc 13 then (bif Nat.beq pc 8 then some (.bipush 32, 0, 0, 32, []) else bif Nat.beq pc 10 then some (.invokevirtual 105, 26, 1, 0, []) else bif Nat.beq pc 13 then some (.aload_n 0, 0, 0, 0, []) else none) else (bif Nat.beq pc 14 then some (.invokevirtual 146, 112, 0, 0, []) else bif Nat.beq pc 17 then some (.istore_n 1, 1, 0, 0, []) else bif Nat.beq pc 18 then some (.aload_n 0, 0, 0, 0, []) else none))) else (bif Nat.ble pc 29 then (bif Nat.ble pc 24 then (bif Nat.beq pc 19 then some (.bipush 32, 0, 0, 32, []) else bif Nat.beq pc 21 then some (.invokevirtual 105, 26, 1, 0, []) else bif Nat.beq pc 24 then some (.invokestatic 153, 113, 0, 0, []) else none) else (bif Nat.beq pc 27 then some (.astore_n 2, 2, 0, 0, []) else bif Nat.beq pc 28 then some (.aload_n 0, 0, 0, 0, []) else bif Nat.beq pc 29 then some (.ldc 164, 1, 39, 0, []) else none)) else (bif Nat.ble pc 37 then (bif Nat.beq pc 31 then some (.invokevirtual 110, 18, 1, 0, []) else bif Nat.beq pc 34 then some (.ifCond .ne 30, 64, 0, 0, []) else bif Nat.beq pc 37 then some (.aload_n 0, 0, 0, 0, []) else none) else (bif Nat.beq pc 38 then some (.bipush 32, 0, 0, 32, []) else bif Nat.beq pc 40 then some (.invokevirtual 105, 26, 1, 0, []) else bif Nat.beq pc 43 then some (.aload_n 0, 0, 0, 0, []) else none)))) else (bif Nat.ble pc 63 then (bif Nat.ble pc 51 then (bif Nat.ble pc 46 then (bif Nat.beq pc 44 then some (.ldc 18, 1, 1, 0, []) else bif Nat.beq pc 46 then some (.iconst 0, 0, 0, 0, []) else none) else (bif Nat.beq pc 47 then some (.invokevirtual 119, 28, 2, 0, []) else bif Nat.beq pc 50 then some (.astore_n 2, 2, 0, 0, []) else bif Nat.beq pc 51 then some (.aload_n 0, 0, 0, 0, []) else none)) else (bif Nat.ble pc 57 then (bif Nat.beq pc 52 then some (.bipush 32, 0, 0, 32, []) else bif Nat.beq pc 54 then some (.invokevirtual 105, 26, 1, 0, []) else bif Nat.beq pc 57 then some (.aload_n 0, 0, 0, 0, []) else none) else (bif Nat.beq pc 58 then some (.ldc 166, 1, 41, 0, []) else bif Nat.beq pc 60 then some (.invokevirtual 110, 18, 1, 0, []) else bif Nat.beq pc 63 then some (.pop, 0, 0, 0, []) else none))) else (bif Nat.ble pc 74 then (bif Nat.ble pc 67 then (bif Nat.beq pc 64 then some (.aload_n 0, 0, 0, 0, []) else bif Nat.beq pc 65 then some (.bipush 32, 0, 0, 32, []) else bif Nat.beq pc 67 then some (.invokevirtual 105, 26, 1, 0, []) else none) else (bif Nat.beq pc 70 then some (.new 168, 6, 0, 0, []) else bif Nat.beq pc 73 then some (.dup, 0, 0, 0, []) else bif Nat.beq pc 74 then some (.iload_n 1, 1, 0, 0, []) else none)) else (bif Nat.ble pc 77 then (bif Nat.beq pc 75 then some (.aload_n 2, 2, 0, 0, []) else bif Nat.beq pc 76 then some (.aload_n 0, 0, 0, 0, []) else bif Nat.beq pc 77 then some (.iconst 1, 0, 0, 1, []) else none) else (bif Nat.beq pc 78 then some (.invokevirtual 130, 17, 1, 0, []) else bif Nat.beq pc 81 then some (.invokespecial 170, 134, 4, 0, []) else bif Nat.beq pc 84 then some (.areturn, 0, 0, 0, []) else none))))
def p134 (pc : Nat) : Option PE := bif Nat.ble pc 9 then (bif Nat.ble pc 4 then (bif Nat.beq pc 0 then some (.aload_n 0, 0, 0, 0, []) else bif Nat.beq pc 1 then some (.invokespecial 1, 0, 0, 0, []) else bif Nat.beq pc 4 then some (.aload_n 0, 0, 0, 0, []) else none) else (bif Nat.beq pc 5 then some (.iload_n 1, 1, 0, 0, []) else bif Nat.beq pc 6 then some (.putfield 7, 6, 0, 0, []) else bif Nat.beq pc 9 then some (.aload_n 0, 0, 0, 0, []) else none)) else (bif Nat.ble pc 14 then (bif Nat.beq pc 10 then some (.aload_n 2, 2, 0, 0, []) else bif Nat.beq pc 11 then some (.putfield 13, 6, 1, 0, []) else bif Nat.beq pc 14 then some (.aload_n 0, 0, 0, 0, []) else none) else (bif Nat.beq pc 15 then some (.aload_n 3, 3, 0, 0, []) else bif Nat.beq pc 16 then some (.putfield 17, 6, 2, 0, []) else bif Nat.beq pc 19 then some (.return_, 0, 0, 0, []) else none))
def p135 (pc : Nat) : Option PE := bif Nat.ble pc 24 then (bif Nat.ble pc 9 then (bif Nat.ble pc 4 then (bif Nat.beq pc 0 then some (.iload_n 1, 1, 0, 0, []) else bif Nat.beq pc 1 then some (.invokestatic 185, 110, 1, 0, []) else bif Nat.beq pc 4 then some (.ifCond .eq 14, 18, 0, 0, []) else none) else (bif Nat.beq pc 7 then some (.iload_n 2, 2, 0, 0, []) else bif Nat.beq pc 8 then some (.iconst 1, 0, 0, 1, []) else bif Nat.beq pc 9 then some (.sipush 240, 0, 0, 240, []) else none)) else (bif Nat.ble pc 18 then (bif Nat.beq pc 12 then some (.invokestatic 39, 12, 3, 0, []) else bif Nat.beq pc 15 then some (.ifCond .ne 5, 20, 0, 0, []) else bif Nat.beq pc 18 then some (.iconst (-1), 0, 0, -1, []) else none) else (bif Nat.ble pc 20 then (bif Nat.beq pc 19 then some (.ireturn, 0, 0, 0, []) else bif Nat.beq pc 20 then some (.aload_n 0, 0, 0, 0, []) else none) else (bif Nat.beq pc 21 then some (.getfield 28, 11, 2, 0, []) else bif Nat.beq pc 24 then some (.getfield 238, 9, 8, 0, []) else none)))) else (bif Nat.ble pc 34 then (bif Nat.ble pc 29 then (bif Nat.beq pc 27 then some (.iload_n 1, 1, 0, 0, []) else bif Nat.beq pc 28 then some (.aaload, 0, 0, 0, []) else bif Nat.beq pc 29 then some (.astore_n 3, 3, 0, 0, []) else none) else (bif Nat.beq pc 30 then some (.aload_n 3, 3, 0, 0, []) else bif Nat.beq pc 31 then some (.ifnonnull 8, 39, 0, 0, []) else bif Nat.beq pc 34 then some (.bipush (-5), 0, 0, -5, []) else none)) else (bif Nat.ble pc 40 then (bif Nat.beq pc 36 then some (.goto 12, 48, 0, 0, []) else bif Nat.beq pc 39 then some (.aload_n 0, 0, 0, 0, []) else bif Nat.beq pc 40 then some (.getfield 28, 11, 2, 0, []) else none) else (bif Nat.ble pc 44 then (bif Nat.beq pc 43 then some (.aload_n 3, 3, 0, 0, []) else bif Nat.beq pc 44 then some (.iload_n 2, 2, 0, 0, []) else none) else (bif Nat.beq pc 45 then some (.invokevirtual 242, 136, 2, 0, []) else bif Nat.beq pc 48 then some (.ireturn, 0, 0, 0, []) else none))))
def p136 (pc : Nat) : Option PE := bif Nat.ble pc 24 then (bif Nat.ble pc 8 then (bif Nat.ble pc 2 then (bif Nat.beq pc 0 then some (.iconst 0, 0, 0, 0, []) else bif Nat.beq pc 1 then some (.istore_n 3, 3, 0, 0, []) else bif Nat.beq pc 2 then some (.iload_n 3, 3, 0, 0, []) else none) else (bif Nat.ble pc 4 then (bif Nat.beq pc 3 then some (.iload_n 2, 2, 0, 0, []) else bif Nat.beq pc 4 then some (.if_icmp .ge 49, 53, 0, 0, []) else none) else (bif Nat.beq pc 7 then some (.aload_n 1, 1, 0, 0, []) else bif Nat.beq pc 8 then some (.getfield 242, 6, 3, 0, []) else none))) else (bif Nat.ble pc 18 then (bif Nat.ble pc 12 then (bif Nat.beq pc 11 then some (.aload_n 0, 0, 0, 0, []) else bif Nat.beq pc 12 then some (.getfield 12, 9, 0, 0, []) else none) else (bif Nat.beq pc 15 then some (.getfield 200, 5, 4, 0, []) else bif Nat.beq pc 18 then some (.if_icmp .ge 35, 53, 0, 0, []) else none)) else (bif Nat.ble pc 22 then (bif Nat.beq pc 21 then some (.aload_n 0, 0, 0, 0, []) else bif Nat.beq pc 22 then some (.aload_n 1, 1, 0, 0, []) else none) else (bif Nat.beq pc 23 then some (.aload_n 1, 1, 0, 0, []) else bif Nat.beq pc 24 then some (.getfield 242, 6, 3, 0, []) else none)))) else (bif Nat.ble pc 38 then (bif Nat.ble pc 32 then (bif Nat.ble pc 28 then (bif Nat.beq pc 27 then some (.iconst 1, 0, 0, 1, []) else bif Nat.beq pc 28 then some (.iadd, 0, 0, 0, []) else none) else (bif Nat.beq pc 29 then some (.invokevirtual 243, 137, 2, 0, []) else bif Nat.beq pc 32 then some (.ifCond .ne 5, 37, 0, 0, []) else none)) else (bif Nat.ble pc 36 then (bif Nat.beq pc 35 then some (.iload_n 3, 3, 0, 0, []) else bif Nat.beq pc 36 then some (.ireturn, 0, 0, 0, []) else none) else (bif Nat.beq pc 37 then some (.aload_n 1, 1, 0, 0, []) else bif Nat.beq pc 38 then some (.dup, 0, 0, 0, []) else none))) else (bif Nat.ble pc 44 then (bif Nat.ble pc 42 then (bif Nat.beq pc 39 then some (.getfield 242, 6, 3, 0, []) else bif Nat.beq pc 42 then some (.iconst 1, 0, 0, 1, []) else none) else (bif Nat.beq pc 43 then some (.iadd, 0, 0, 0, []) else bif Nat.beq pc 44 then some (.putfield 242, 6, 3, 0, []) else none)) else (bif Nat.ble pc 50 then (bif Nat.beq pc 47 then some (.iinc 3 1, 3, 0, 1, []) else bif Nat.beq pc 50 then some (.goto (-48), 2, 0, 0, []) else none) else (bif Nat.beq pc 53 then some (.iload_n 3, 3, 0, 0, []) else bif Nat.beq pc 54 then some (.ireturn, 0, 0, 0, []) else none))))
def p137 (pc : Nat) : Option PE := bif Nat.ble pc 54 then (bif Nat.ble pc 23 then (bif Nat.ble pc 12 then (bif Nat.ble pc 4 then (bif Nat.beq pc 0 then some (.aload_n 0, 0, 0, 0, []) else bif Nat.beq pc 1 then some (.getfield 31, 9, 3, 0, []) else bif Nat.beq pc 4 then some (.aload_n 0, 0, 0, 0, []) else none) else (bif Nat.ble pc 8 then (bif Nat.beq pc 5 then some (.getfield 12, 9, 0, 0, []) else bif Nat.beq pc 8 then some (.iload_n 2, 2, 0, 0, []) else none) else (bif Nat.beq pc 9 then some (.invokevirtual 211, 79, 2, 0, []) else bif Nat.beq pc 12 then some (.aload_n 1, 1, 0, 0, []) else none))) else (bif Nat.ble pc 17 then (bif Nat.beq pc 13 then some (.aload_n 0, 0, 0, 0, []) else bif Nat.beq pc 14 then some (.getfield 12, 9, 0, 0, []) else bif Nat.beq pc 17 then some (.iload_n 2, 2, 0, 0, []) else none) else (bif Nat.ble pc 19 then (bif Nat.beq pc 18 then some (.iconst 2, 0, 0, 2, []) else bif Nat.beq pc 19 then some (.invokevirtual 215, 80, 2, 0, []) else none) else (bif Nat.beq pc 22 then some (.aload_n 0, 0, 0, 0, []) else bif Nat.beq pc 23 then some (.getfield 31, 9, 3, 0, []) else none)))) else (bif Nat.ble pc 38 then (bif Nat.ble pc 32 then (bif Nat.beq pc 26 then some (.getfield 229, 3, 3, 0, []) else bif Nat.beq pc 29 then some (.invokevirtual 247, 138, 2, 0, []) else bif Nat.beq pc 32 then some (.ifCond .ne 5, 37, 0, 0, []) else none) else (bif Nat.ble pc 36 then (bif Nat.beq pc 35 then some (.iconst 1, 0, 0, 1, []) else bif Nat.beq pc 36 then some (.ireturn, 0, 0, 0, []) else none) else (bif Nat.beq pc 37 then some (.aload_n 1, 1, 0, 0, []) else bif Nat.beq pc 38 then some (.getfield 251, 6, 2, 0, []) else none))) else (bif Nat.ble pc 48 then (bif Nat.ble pc 42 then (bif Nat.beq pc 41 then some (.aload_n 0, 0, 0, 0, []) else bif Nat.beq pc 42 then some (.getfield 31, 9, 3, 0, []) else none) else (bif Nat.beq pc 45 then some (.getfield 229, 3, 3, 0, []) else bif Nat.beq pc 48 then some (.invokevirtual 255, 139, 1, 0, []) else none)) else (bif Nat.ble pc 52 then (bif Nat.beq pc 51 then some (.istore_n 3, 3, 0, 0, []) else bif Nat.beq pc 52 then some (.aload_n 0, 0, 0, 0, []) else none) else (bif Nat.beq pc 53 then some (.aload_n 0, 0, 0, 0, []) else bif Nat.beq pc 54 then some (.getfield 12, 9, 0, 0, []) else none))))) else (bif Nat.ble pc 83 then (bif Nat.ble pc 67 then (bif Nat.ble pc 59 then (bif Nat.beq pc 57 then some (.iload_n 2, 2, 0, 0, []) else bif Nat.beq pc 58 then some (.iconst 0, 0, 0, 0, []) else bif Nat.beq pc 59 then some (.invokevirtual 215, 80, 2, 0, []) else none) else (bif Nat.ble pc 63 then (bif Nat.beq pc 62 then some (.aload_n 1, 1, 0, 0, []) else bif Nat.beq pc 63 then some (.getfield 251, 6, 2, 0, []) else none) else (bif Nat.beq pc 66 then some (.iload_n 3, 3, 0, 0, []) else bif Nat.beq pc 67 then some (.invokevirtual 133, 49, 3, 0, []) else none))) else (bif Nat.ble pc 76 then (bif Nat.ble pc 72 then (bif Nat.beq pc 70 then some (.istore 4, 4, 0, 0, []) else bif Nat.beq pc 72 then some (.iload 4, 4, 0, 0, []) else none) else (bif Nat.beq pc 74 then some (.bipush (-3), 0, 0, -3, []) else bif Nat.beq pc 76 then some (.if_icmp .ne 5, 81, 0, 0, []) else none)) else (bif Nat.ble pc 80 then (bif Nat.beq pc 79 then some (.iconst 0, 0, 0, 0, []) else bif Nat.beq pc 80 then some (.ireturn, 0, 0, 0, []) else none) else (bif Nat.beq pc 81 then some (.iload 4, 4, 0, 0, []) else bif Nat.beq pc 83 then some (.ifCond .le 16, 99, 0, 0, []) else none)))) else (bif Nat.ble pc 96 then (bif Nat.ble pc 88 then (bif Nat.beq pc 86 then some (.aload_n 1, 1, 0, 0, []) else bif Nat.beq pc 87 then some (.dup, 0, 0, 0, []) else bif Nat.beq pc 88 then some (.getfield 259, 6, 4, 0, []) else none) else (bif Nat.ble pc 92 then (bif Nat.beq pc 91 then some (.iconst 1, 0, 0, 1, []) else bif Nat.beq pc 92 then some (.iadd, 0, 0, 0, []) else none) else (bif Nat.beq pc 93 then some (.putfield 259, 6, 4, 0, []) else bif Nat.beq pc 96 then some (.goto 13, 109, 0, 0, []) else none))) else (bif Nat.ble pc 104 then (bif Nat.ble pc 100 then (bif Nat.beq pc 99 then some (.aload_n 1, 1, 0, 0, []) else bif Nat.beq pc 100 then some (.dup, 0, 0, 0, []) else none) else (bif Nat.beq pc 101 then some (.getfield 262, 6, 5, 0, []) else bif Nat.beq pc 104 then some (.iconst 1, 0, 0, 1, []) else none)) else (bif Nat.ble pc 106 then (bif Nat.beq pc 105 then some (.iadd, 0, 0, 0, []) else bif Nat.beq pc 106 then some (.putfield 262, 6, 5, 0, []) else none) else (bif Nat.beq pc 109 then some (.iconst 1, 0, 0, 1, []) else bif Nat.beq pc 110 then some (.ireturn, 0, 0, 0, []) else none)))))
def p138 (pc : Nat) : Option PE := bif Nat.ble pc 9 then (bif Nat.ble pc 5 then (bif Nat.ble pc 1 then (bif Nat.beq pc 0 then some (.aload_n 0, 0, 0, 0, []) else bif Nat.beq pc 1 then some (.getfield 7, 6, 0, 0, []) else none) else (bif Nat.beq pc 4 then some (.iload_n 1, 1, 0, 0, []) else bif Nat.beq pc 5 then some (.ishr, 0, 0, 0, []) else none)) else (bif Nat.ble pc 7 then (bif Nat.beq pc 6 then some (.iconst 1, 0, 0, 1, []) else bif Nat.beq pc 7 then some (.iand, 0, 0, 0, []) else none) else (bif Nat.beq pc 8 then some (.iconst 1, 0, 0, 1, []) else bif Nat.beq pc 9 then some (.if_icmp .ne 18, 27, 0, 0, []) else none))) else (bif Nat.ble pc 17 then (bif Nat.ble pc 13 then (bif Nat.beq pc 12 then some (.aload_n 0, 0, 0, 0, []) else bif Nat.beq pc 13 then some (.getfield 13, 6, 1, 0, []) else none) else (bif Nat.beq pc 16 then some (.aload_n 2, 2, 0, 0, []) else bif Nat.beq pc 17 then some (.invokevirtual 33, 83, 1, 0, []) else none)) else (bif Nat.ble pc 23 then (bif Nat.beq pc 20 then some (.ifCond .eq 7, 27, 0, 0, []) else bif Nat.beq pc 23 then some (.iconst 1, 0, 0, 1, []) else none) else (bif Nat.beq pc 24 then some (.goto 4, 28, 0, 0, []) else bif Nat.beq pc 27 then some (.iconst 0, 0, 0, 0, []) else bif Nat.beq pc 28 then some (.ireturn, 0, 0, 0, []) else none)))
def p139 (pc : Nat) : Option PE := bif Nat.ble pc 14 then (bif Nat.ble pc 4 then (bif Nat.beq pc 0 then some (.aload_n 0, 0, 0, 0, []) else bif Nat.beq pc 1 then some (.getfield 21, 2, 3, 0, []) else bif Nat.beq pc 4 then some (.ifnonnull 10, 14, 0, 0, []) else none) else (bif Nat.ble pc 8 then (bif Nat.beq pc 7 then some (.aload_n 0, 0, 0, 0, []) else bif Nat.beq pc 8 then some (.getfield 15, 2, 1, 0, []) else none) else (bif Nat.beq pc 11 then some (.goto 21, 32, 0, 0, []) else bif Nat.beq pc 14 then some (.iconst 0, 0, 0, 0, []) else none))) else (bif Nat.ble pc 22 then (bif Nat.ble pc 18 then (bif Nat.beq pc 15 then some (.sipush 999, 0, 0, 999, []) else bif Nat.beq pc 18 then some (.aload_n 0, 0, 0, 0, []) else none) else (bif Nat.beq pc 19 then some (.getfield 21, 2, 3, 0, []) else bif Nat.beq pc 22 then some (.aload_n 1, 1, 0, 0, []) else none)) else (bif Nat.ble pc 26 then (bif Nat.beq pc 23 then some (.invokevirtual 25, 83, 1, 0, []) else bif Nat.beq pc 26 then some (.invokestatic 31, 40, 2, 0, []) else none) else (bif Nat.beq pc 29 then some (.invokestatic 37, 39, 2, 0, []) else bif Nat.beq pc 32 then some (.ireturn, 0, 0, 0, []) else none)))
def p140 (pc : Nat) : Option PE := none
def p141 (pc : Nat) : Option PE := none
def p142 (pc : Nat) : Option PE := none
def p143 (pc : Nat) : Option PE := none
def p144 (pc : Nat) : Option PE := none
def p145 (pc : Nat) : Option PE := none
def p146 (pc : Nat) : Option PE := none
def p147 (pc : Nat) : Option PE := none
def p148 (pc : Nat) : Option PE := none
def p149 (pc : Nat) : Option PE := none
def p150 (pc : Nat) : Option PE := none
def p151 (pc : Nat) : Option PE := none
def p152 (pc : Nat) : Option PE := none
def p153 (pc : Nat) : Option PE := none
def p154 (pc : Nat) : Option PE := none
def p155 (pc : Nat) : Option PE := none
def p156 (pc : Nat) : Option PE := none
def p157 (pc : Nat) : Option PE := none
def p158 (pc : Nat) : Option PE := none
def p159 (pc : Nat) : Option PE := none
def p160 (pc : Nat) : Option PE := none
def p161 (pc : Nat) : Option PE := bif Nat.ble pc 10 then (bif Nat.ble pc 2 then (bif Nat.beq pc 0 then some (.iload_n 1, 1, 0, 0, []) else bif Nat.beq pc 1 then some (.iconst 0, 0, 0, 0, []) else bif Nat.beq pc 2 then some (.bipush 6, 0, 0, 6, []) else none) else (bif Nat.beq pc 4 then some (.invokestatic 39, 12, 3, 0, []) else bif Nat.beq pc 7 then some (.ifCond .eq 15, 22, 0, 0, []) else bif Nat.beq pc 10 then some (.aload_n 0, 0, 0, 0, []) else none)) else (bif Nat.ble pc 17 then (bif Nat.beq pc 11 then some (.getfield 28, 11, 2, 0, []) else bif Nat.beq pc 14 then some (.getfield 307, 9, 11, 0, []) else bif Nat.beq pc 17 then some (.iload_n 1, 1, 0, 0, []) else none) else (bif Nat.ble pc 19 then (bif Nat.beq pc 18 then some (.iaload, 20, 0, 0, []) else bif Nat.beq pc 19 then some (.goto 4, 23, 0, 0, []) else none) else (bif Nat.beq pc 22 then some (.iconst (-1), 0, 0, -1, []) else bif Nat.beq pc 23 then some (.ireturn, 0, 0, 0, []) else none)))
def p162 (pc : Nat) : Option PE := bif Nat.ble pc 85 then (bif Nat.ble pc 63 then (bif Nat.ble pc 52 then (bif Nat.ble pc 1 then (bif Nat.beq pc 0 then some (.iload_n 1, 1, 0, 0, []) else bif Nat.beq pc 1 then some (.tableswitch 123 0 7 #[47, 58, 69, 77, 88, 96, 107, 115], 124, 0, 0, [48, 59, 70, 78, 89, 97, 108, 116]) else none) else (bif Nat.beq pc 48 then some (.aload_n 0, 0, 0, 0, []) else bif Nat.beq pc 49 then some (.getfield 28, 11, 2, 0, []) else bif Nat.beq pc 52 then some (.getfield 95, 9, 0, 0, []) else none)) else (bif Nat.ble pc 58 then (bif Nat.beq pc 55 then some (.getfield 176, 5, 4, 0, []) else bif Nat.beq pc 58 then some (.ireturn, 0, 0, 0, []) else none) else (bif Nat.beq pc 59 then some (.aload_n 0, 0, 0, 0, []) else bif Nat.beq pc 60 then some (.getfield 28, 11, 2, 0, []) else bif Nat.beq pc 63 then some (.getfield 131, 9, 3, 0, []) else none))) else (bif Nat.ble pc 74 then (bif Nat.ble pc 69 then (bif Nat.beq pc 66 then some (.getfield 135, 3, 4, 0, []) else bif Nat.beq pc 69 then some (.ireturn, 0, 0, 0, []) else none) else (bif Nat.beq pc 70 then some (.aload_n 0, 0, 0, 0, []) else bif Nat.beq pc 71 then some (.getfield 14, 11, 0, 0, []) else bif Nat.beq pc 74 then some (.getfield 199, 10, 4, 0, []) else none)) else (bif Nat.ble pc 78 then (bif Nat.beq pc 77 then some (.ireturn, 0, 0, 0, []) else bif Nat.beq pc 78 then some (.aload_n 0, 0, 0, 0, []) else none) else (bif Nat.beq pc 79 then some (.getfield 28, 11, 2, 0, []) else bif Nat.beq pc 82 then some (.getfield 95, 9, 0, 0, []) else bif Nat.beq pc 85 then some (.invokevirtual 310, 163, 0, 0, []) else none)))) else (bif Nat.ble pc 107 then (bif Nat.ble pc 96 then (bif Nat.ble pc 89 then (bif Nat.beq pc 88 then some (.ireturn, 0, 0, 0, []) else bif Nat.beq pc 89 then some (.aload_n 0, 0, 0, 0, []) else none) else (bif Nat.beq pc 90 then some (.getfield 28, 11, 2, 0, []) else bif Nat.beq pc 93 then some (.invokevirtual 313, 164, 0, 0, []) else bif Nat.beq pc 96 then some (.ireturn, 0, 0, 0, []) else none)) else (bif Nat.ble pc 98 then (bif Nat.beq pc 97 then some (.aload_n 0, 0, 0, 0, []) else bif Nat.beq pc 98 then some (.getfield 28, 11, 2, 0, []) else none) else (bif Nat.beq pc 101 then some (.getfield 127, 9, 4, 0, []) else bif Nat.beq pc 104 then some (.invokevirtual 316, 165, 0, 0, []) else bif Nat.beq pc 107 then some (.ireturn, 0, 0, 0, []) else none))) else (bif Nat.ble pc 116 then (bif Nat.ble pc 109 then (bif Nat.beq pc 108 then some (.aload_n 0, 0, 0, 0, []) else bif Nat.beq pc 109 then some (.getfield 28, 11, 2, 0, []) else none) else (bif Nat.beq pc 112 then some (.invokevirtual 319, 166, 0, 0, []) else bif Nat.beq pc 115 then some (.ireturn, 0, 0, 0, []) else bif Nat.beq pc 116 then some (.aload_n 0, 0, 0, 0, []) else none)) else (bif Nat.ble pc 120 then (bif Nat.beq pc 117 then some (.getfield 28, 11, 2, 0, []) else bif Nat.beq pc 120 then some (.getfield 156, 9, 13, 0, []) else none) else (bif Nat.beq pc 123 then some (.ireturn, 0, 0, 0, []) else bif Nat.beq pc 124 then some (.iconst (-1), 0, 0, -1, []) else bif Nat.beq pc 125 then some (.ireturn, 0, 0, 0, []) else none))))
def p163 (pc : Nat) : Option PE := bif Nat.ble pc 15 then (bif Nat.ble pc 5 then (bif Nat.ble pc 2 then (bif Nat.beq pc 0 then some (.iconst 0, 0, 0, 0, []) else bif Nat.beq pc 1 then some (.istore_n 1, 1, 0, 0, []) else bif Nat.beq pc 2 then some (.iconst 0, 0, 0, 0, []) else none) else (bif Nat.beq pc 3 then some (.istore_n 2, 2, 0, 0, []) else bif Nat.beq pc 4 then some (.iload_n 2, 2, 0, 0, []) else bif Nat.beq pc 5 then some (.aload_n 0, 0, 0, 0, []) else none)) else (bif Nat.ble pc 10 then (bif Nat.beq pc 6 then some (.getfield 15, 5, 1, 0, []) else bif Nat.beq pc 9 then some (.arraylength, 0, 0, 0, []) else bif Nat.beq pc 10 then some (.if_icmp .ge 26, 36, 0, 0, []) else none) else (bif Nat.beq pc 13 then some (.iload_n 1, 1, 0, 0, []) else bif Nat.beq pc 14 then some (.aload_n 0, 0, 0, 0, []) else bif Nat.beq pc 15 then some (.getfield 15, 5, 1, 0, []) else none))) else (bif Nat.ble pc 27 then (bif Nat.ble pc 20 then (bif Nat.beq pc 18 then some (.iload_n 2, 2, 0, 0, []) else bif Nat.beq pc 19 then some (.iaload, 20, 0, 0, []) else bif Nat.beq pc 20 then some (.ifCond .le 7, 27, 0, 0, []) else none) else (bif Nat.beq pc 23 then some (.iconst 1, 0, 0, 1, []) else bif Nat.beq pc 24 then some (.goto 4, 28, 0, 0, []) else bif Nat.beq pc 27 then some (.iconst 0, 0, 0, 0, []) else none)) else (bif Nat.ble pc 30 then (bif Nat.beq pc 28 then some (.iadd, 0, 0, 0, []) else bif Nat.beq pc 29 then some (.istore_n 1, 1, 0, 0, []) else bif Nat.beq pc 30 then some (.iinc 2 1, 2, 0, 1, []) else none) else (bif Nat.beq pc 33 then some (.goto (-29), 4, 0, 0, []) else bif Nat.beq pc 36 then some (.iload_n 1, 1, 0, 0, []) else bif Nat.beq pc 37 then some (.ireturn, 0, 0, 0, []) else none)))
def p164 (pc : Nat) : Option PE := bif Nat.ble pc 15 then (bif Nat.ble pc 5 then (bif Nat.ble pc 2 then (bif Nat.beq pc 0 then some (.iconst 0, 0, 0, 0, []) else bif Nat.beq pc 1 then some (.istore_n 1, 1, 0, 0, []) else bif Nat.beq pc 2 then some (.iconst 0, 0, 0, 0, []) else none) else (bif Nat.beq pc 3 then some (.istore_n 2, 2, 0, 0, []) else bif Nat.beq pc 4 then some (.iload_n 2, 2, 0, 0, []) else bif Nat.beq pc 5 then some (.aload_n 0, 0, 0, 0, []) else none)) else (bif Nat.ble pc 10 then (bif Nat.beq pc 6 then some (.getfield 42, 9, 5, 0, []) else bif Nat.beq pc 9 then some (.arraylength, 0, 0, 0, []) else bif Nat.beq pc 10 then some (.if_icmp .ge 26, 36, 0, 0, []) else none) else (bif Nat.beq pc 13 then some (.iload_n 1, 1, 0, 0, []) else bif Nat.beq pc 14 then some (.aload_n 0, 0, 0, 0, []) else bif Nat.beq pc 15 then some (.getfield 42, 9, 5, 0, []) else none))) else (bif Nat.ble pc 27 then (bif Nat.ble pc 20 then (bif Nat.beq pc 18 then some (.iload_n 2, 2, 0, 0, []) else bif Nat.beq pc 19 then some (.iaload, 20, 0, 0, []) else bif Nat.beq pc 20 then some (.ifCond .le 7, 27, 0, 0, []) else none) else (bif Nat.beq pc 23 then some (.iconst 1, 0, 0, 1, []) else bif Nat.beq pc 24 then some (.goto 4, 28, 0, 0, []) else bif Nat.beq pc 27 then some (.iconst 0, 0, 0, 0, []) else none)) else (bif Nat.ble pc 30 then (bif Nat.beq pc 28 then some (.iadd, 0, 0, 0, []) else bif Nat.beq pc 29 then some (.istore_n 1, 1, 0, 0, []) else bif Nat.beq pc 30 then some (.iinc 2 1, 2, 0, 1, []) else none) else (bif Nat.beq pc 33 then some (.goto (-29), 4, 0, 0, []) else bif Nat.beq pc 36 then some (.iload_n 1, 1, 0, 0, []) else bif Nat.beq pc 37 then some (.ireturn, 0, 0, 0, []) else none)))
def p165 (pc : Nat) : Option PE := bif Nat.ble pc 13 then (bif Nat.ble pc 4 then (bif Nat.ble pc 1 then (bif Nat.beq pc 0 then some (.iconst 0, 0, 0, 0, []) else bif Nat.beq pc 1 then some (.istore_n 1, 1, 0, 0, []) else none) else (bif Nat.beq pc 2 then some (.iconst 0, 0, 0, 0, []) else bif Nat.beq pc 3 then some (.istore_n 2, 2, 0, 0, []) else bif Nat.beq pc 4 then some (.iload_n 2, 2, 0, 0, []) else none)) else (bif Nat.ble pc 6 then (bif Nat.beq pc 5 then some (.aload_n 0, 0, 0, 0, []) else bif Nat.beq pc 6 then some (.getfield 18, 8, 2, 0, []) else none) else (bif Nat.beq pc 9 then some (.arraylength, 0, 0, 0, []) else bif Nat.beq pc 10 then some (.if_icmp .ge 18, 28, 0, 0, []) else bif Nat.beq pc 13 then some (.iload_n 1, 1, 0, 0, []) else none))) else (bif Nat.ble pc 20 then (bif Nat.ble pc 15 then (bif Nat.beq pc 14 then some (.aload_n 0, 0, 0, 0, []) else bif Nat.beq pc 15 then some (.getfield 18, 8, 2, 0, []) else none) else (bif Nat.beq pc 18 then some (.iload_n 2, 2, 0, 0, []) else bif Nat.beq pc 19 then some (.iaload, 20, 0, 0, []) else bif Nat.beq pc 20 then some (.iadd, 0, 0, 0, []) else none)) else (bif Nat.ble pc 22 then (bif Nat.beq pc 21 then some (.istore_n 1, 1, 0, 0, []) else bif Nat.beq pc 22 then some (.iinc 2 1, 2, 0, 1, []) else none) else (bif Nat.beq pc 25 then some (.goto (-21), 4, 0, 0, []) else bif Nat.beq pc 28 then some (.iload_n 1, 1, 0, 0, []) else bif Nat.beq pc 29 then some (.ireturn, 0, 0, 0, []) else none)))
def p166 (pc : Nat) : Option PE := bif Nat.ble pc 15 then (bif Nat.ble pc 5 then (bif Nat.ble pc 2 then (bif Nat.beq pc 0 then some (.iconst 0, 0, 0, 0, []) else bif Nat.beq pc 1 then some (.istore_n 1, 1, 0, 0, []) else bif Nat.beq pc 2 then some (.iconst 0, 0, 0, 0, []) else none) else (bif Nat.beq pc 3 then some (.istore_n 2, 2, 0, 0, []) else bif Nat.beq pc 4 then some (.iload_n 2, 2, 0, 0, []) else bif Nat.beq pc 5 then some (.aload_n 0, 0, 0, 0, []) else none)) else (bif Nat.ble pc 10 then (bif Nat.beq pc 6 then some (.getfield 48, 9, 6, 0, []) else bif Nat.beq pc 9 then some (.arraylength, 0, 0, 0, []) else bif Nat.beq pc 10 then some (.if_icmp .ge 26, 36, 0, 0, []) else none) else (bif Nat.beq pc 13 then some (.iload_n 1, 1, 0, 0, []) else bif Nat.beq pc 14 then some (.aload_n 0, 0, 0, 0, []) else bif Nat.beq pc 15 then some (.getfield 48, 9, 6, 0, []) else none))) else (bif Nat.ble pc 27 then (bif Nat.ble pc 20 then (bif Nat.beq pc 18 then some (.iload_n 2, 2, 0, 0, []) else bif Nat.beq pc 19 then some (.aaload, 0, 0, 0, []) else bif Nat.beq pc 20 then some (.ifnonnull 7, 27, 0, 0, []) else none) else (bif Nat.beq pc 23 then some (.iconst 0, 0, 0, 0, []) else bif Nat.beq pc 24 then some (.goto 4, 28, 0, 0, []) else bif Nat.beq pc 27 then some (.iconst 1, 0, 0, 1, []) else none)) else (bif Nat.ble pc 30 then (bif Nat.beq pc 28 then some (.iadd, 0, 0, 0, []) else bif Nat.beq pc 29 then some (.istore_n 1, 1, 0, 0, []) else bif Nat.beq pc 30 then some (.iinc 2 1, 2, 0, 1, []) else none) else (bif Nat.beq pc 33 then some (.goto (-29), 4, 0, 0, []) else bif Nat.beq pc 36 then some (.iload_n 1, 1, 0, 0, []) else bif Nat.beq pc 37 then some (.ireturn, 0, 0, 0, []) else none)))
def p167 (pc : Nat) : Option PE := bif Nat.ble pc 1 then (bif Nat.beq pc 0 then some (.aload_n 0, 0, 0, 0, []) else bif Nat.beq pc 1 then some (.bipush 16, 0, 0, 16, []) else none) else (bif Nat.beq pc 3 then some (.invokespecial 1, 172, 2, 0, []) else bif Nat.beq pc 6 then some (.return_, 0, 0, 0, []) else none)
def p168 (pc : Nat) : Option PE := bif Nat.ble pc 2 then (bif Nat.beq pc 0 then some (.aload_n 0, 0, 0, 0, []) else bif Nat.beq pc 1 then some (.aload_n 1, 1, 0, 0, []) else bif Nat.beq pc 2 then some (.invokespecial 29, 173, 2, 0, []) else none) else (bif Nat.beq pc 5 then some (.pop, 0, 0, 0, []) else bif Nat.beq pc 6 then some (.aload_n 0, 0, 0, 0, []) else bif Nat.beq pc 7 then some (.areturn, 0, 0, 0, []) else none)
def p169 (pc : Nat) : Option PE := bif Nat.ble pc 2 then (bif Nat.beq pc 0 then some (.aload_n 0, 0, 0, 0, []) else bif Nat.beq pc 1 then some (.iload_n 1, 1, 0, 0, []) else bif Nat.beq pc 2 then some (.invokespecial 53, 174, 2, 0, []) else none) else (bif Nat.beq pc 5 then some (.pop, 0, 0, 0, []) else bif Nat.beq pc 6 then some (.aload_n 0, 0, 0, 0, []) else bif Nat.beq pc 7 then some (.areturn, 0, 0, 0, []) else none)
def p170 (pc : Nat) : Option PE := bif Nat.ble pc 3 then (bif Nat.beq pc 0 then some (.new 18, 13, 0, 0, []) else bif Nat.beq pc 3 then some (.dup, 0, 0, 0, []) else none) else (bif Nat.beq pc 4 then some (.aload_n 0, 0, 0, 0, []) else bif Nat.beq pc 5 then some (.invokespecial 137, 182, 2, 0, []) else bif Nat.beq pc 8 then some (.areturn, 0, 0, 0, []) else none)
def p171 (pc : Nat) : Option PE := bif Nat.beq pc 0 then some (.aload_n 0, 0, 0, 0, []) else bif Nat.beq pc 1 then some (.invokespecial 343, 181, 1, 0, []) else bif Nat.beq pc 4 then some (.ireturn, 0, 0, 0, []) else none
def p172 (pc : Nat) : Option PE := bif Nat.ble pc 17 then (bif Nat.ble pc 7 then (bif Nat.ble pc 1 then (bif Nat.beq pc 0 then some (.aload_n 0, 0, 0, 0, []) else bif Nat.beq pc 1 then some (.invokespecial 3, 0, 0, 0, []) else none) else (bif Nat.beq pc 4 then some (.getstatic 18, 0, 0, 1, []) else bif Nat.beq pc 7 then some (.ifCond .eq 18, 25, 0, 0, []) else none)) else (bif Nat.ble pc 11 then (bif Nat.beq pc 10 then some (.aload_n 0, 0, 0, 0, []) else bif Nat.beq pc 11 then some (.iload_n 1, 1, 0, 0, []) else none) else (bif Nat.beq pc 12 then some (.newarray .byte, 1, 0, 0, []) else bif Nat.beq pc 14 then some (.putfield 15, 12, 0, 0, []) else bif Nat.beq pc 17 then some (.aload_n 0, 0, 0, 0, []) else none))) else (bif Nat.ble pc 26 then (bif Nat.ble pc 19 then (bif Nat.beq pc 18 then some (.iconst 0, 0, 0, 0, []) else bif Nat.beq pc 19 then some (.putfield 22, 12, 1, 0, []) else none) else (bif Nat.beq pc 22 then some (.goto 16, 38, 0, 0, []) else bif Nat.beq pc 25 then some (.aload_n 0, 0, 0, 0, []) else bif Nat.beq pc 26 then some (.iload_n 1, 1, 0, 0, []) else none)) else (bif Nat.ble pc 33 then (bif Nat.beq pc 30 then some (.putfield 15, 12, 0, 0, []) else bif Nat.beq pc 33 then some (.aload_n 0, 0, 0, 0, []) else none) else (bif Nat.beq pc 34 then some (.iconst 1, 0, 0, 1, []) else bif Nat.beq pc 35 then some (.putfield 22, 12, 1, 0, []) else bif Nat.beq pc 38 then some (.return_, 0, 0, 0, []) else none)))
def p173 (pc : Nat) : Option PE := bif Nat.ble pc 21 then (bif Nat.ble pc 10 then (bif Nat.ble pc 4 then (bif Nat.beq pc 0 then some (.aload_n 1, 1, 0, 0, []) else bif Nat.beq pc 1 then some (.ifnonnull 8, 9, 0, 0, []) else bif Nat.beq pc 4 then some (.aload_n 0, 0, 0, 0, []) else none) else (bif Nat.beq pc 8 then some (.areturn, 0, 0, 0, []) else bif Nat.beq pc 9 then some (.aload_n 1, 1, 0, 0, []) else bif Nat.beq pc 10 then some (.invokevirtual 32, 7, 0, 0, []) else none)) else (bif Nat.ble pc 15 then (bif Nat.beq pc 13 then some (.istore_n 2, 2, 0, 0, []) else bif Nat.beq pc 14 then some (.aload_n 0, 0, 0, 0, []) else bif Nat.beq pc 15 then some (.aload_n 0, 0, 0, 0, []) else none) else (bif Nat.ble pc 19 then (bif Nat.beq pc 16 then some (.getfield 79, 12, 3, 0, []) else bif Nat.beq pc 19 then some (.iload_n 2, 2, 0, 0, []) else none) else (bif Nat.beq pc 20 then some (.iadd, 0, 0, 0, []) else bif Nat.beq pc 21 then some (.invokevirtual 100, 175, 1, 0, []) else none)))) else (bif Nat.ble pc 33 then (bif Nat.ble pc 26 then (bif Nat.beq pc 24 then some (.aload_n 0, 0, 0, 0, []) else bif Nat.beq pc 25 then some (.aload_n 0, 0, 0, 0, []) else bif Nat.beq pc 26 then some (.getfield 79, 12, 3, 0, []) else none) else (bif Nat.beq pc 29 then some (.aload_n 1, 1, 0, 0, []) else bif Nat.beq pc 30 then some (.invokevirtual 208, 178, 2, 0, []) else bif Nat.beq pc 33 then some (.aload_n 0, 0, 0, 0, []) else none)) else (bif Nat.ble pc 38 then (bif Nat.beq pc 34 then some (.dup, 0, 0, 0, []) else bif Nat.beq pc 35 then some (.getfield 79, 12, 3, 0, []) else bif Nat.beq pc 38 then some (.iload_n 2, 2, 0, 0, []) else none) else (bif Nat.ble pc 40 then (bif Nat.beq pc 39 then some (.iadd, 0, 0, 0, []) else bif Nat.beq pc 40 then some (.putfield 79, 12, 3, 0, []) else none) else (bif Nat.beq pc 43 then some (.aload_n 0, 0, 0, 0, []) else bif Nat.beq pc 44 then some (.areturn, 0, 0, 0, []) else none))))
def p174 (pc : Nat) : Option PE := bif Nat.ble pc 25 then (bif Nat.ble pc 11 then (bif Nat.ble pc 5 then (bif Nat.ble pc 1 then (bif Nat.beq pc 0 then some (.aload_n 0, 0, 0, 0, []) else bif Nat.beq pc 1 then some (.getfield 79, 12, 3, 0, []) else none) else (bif Nat.beq pc 4 then some (.istore_n 2, 2, 0, 0, []) else bif Nat.beq pc 5 then some (.iload_n 2, 2, 0, 0, []) else none)) else (bif Nat.ble pc 7 then (bif Nat.beq pc 6 then some (.iload_n 1, 1, 0, 0, []) else bif Nat.beq pc 7 then some (.invokestatic 245, 185, 1, 0, []) else none) else (bif Nat.beq pc 10 then some (.iadd, 0, 0, 0, []) else bif Nat.beq pc 11 then some (.istore_n 3, 3, 0, 0, []) else none))) else (bif Nat.ble pc 17 then (bif Nat.ble pc 13 then (bif Nat.beq pc 12 then some (.aload_n 0, 0, 0, 0, []) else bif Nat.beq pc 13 then some (.iload_n 3, 3, 0, 0, []) else none) else (bif Nat.beq pc 14 then some (.invokevirtual 100, 175, 1, 0, []) else bif Nat.beq pc 17 then some (.aload_n 0, 0, 0, 0, []) else none)) else (bif Nat.ble pc 21 then (bif Nat.beq pc 18 then some (.invokevirtual 83, 177, 0, 0, []) else bif Nat.beq pc 21 then some (.ifCond .eq 16, 37, 0, 0, []) else none) else (bif Nat.beq pc 24 then some (.iload_n 1, 1, 0, 0, []) else bif Nat.beq pc 25 then some (.iload_n 3, 3, 0, 0, []) else none)))) else (bif Nat.ble pc 39 then (bif Nat.ble pc 33 then (bif Nat.ble pc 27 then (bif Nat.beq pc 26 then some (.aload_n 0, 0, 0, 0, []) else bif Nat.beq pc 27 then some (.getfield 15, 12, 0, 0, []) else none) else (bif Nat.beq pc 30 then some (.invokestatic 248, 186, 3, 0, []) else bif Nat.beq pc 33 then some (.pop, 0, 0, 0, []) else none)) else (bif Nat.ble pc 37 then (bif Nat.beq pc 34 then some (.goto 14, 48, 0, 0, []) else bif Nat.beq pc 37 then some (.iload_n 1, 1, 0, 0, []) else none) else (bif Nat.beq pc 38 then some (.iload_n 2, 2, 0, 0, []) else bif Nat.beq pc 39 then some (.iload_n 3, 3, 0, 0, []) else none))) else (bif Nat.ble pc 48 then (bif Nat.ble pc 41 then (bif Nat.beq pc 40 then some (.aload_n 0, 0, 0, 0, []) else bif Nat.beq pc 41 then some (.getfield 15, 12, 0, 0, []) else none) else (bif Nat.beq pc 47 then some (.pop, 0, 0, 0, []) else bif Nat.beq pc 48 then some (.aload_n 0, 0, 0, 0, []) else none)) else (bif Nat.ble pc 50 then (bif Nat.beq pc 49 then some (.iload_n 3, 3, 0, 0, []) else bif Nat.beq pc 50 then some (.putfield 79, 12, 3, 0, []) else none) else (bif Nat.beq pc 53 then some (.aload_n 0, 0, 0, 0, []) else bif Nat.beq pc 54 then some (.areturn, 0, 0, 0, []) else none))))
def p175 (pc : Nat) : Option PE := bif Nat.ble pc 14 then (bif Nat.ble pc 6 then (bif Nat.ble pc 1 then (bif Nat.beq pc 0 then some (.aload_n 0, 0, 0, 0, []) else bif Nat.beq pc 1 then some (.getfield 15, 12, 0, 0, []) else none) else (bif Nat.beq pc 4 then some (.arraylength, 0, 0, 0, []) else bif Nat.beq pc 5 then some (.aload_n 0, 0, 0, 0, []) else bif Nat.beq pc 6 then some (.getfield 22, 12, 1, 0, []) else none)) else (bif Nat.ble pc 11 then (bif Nat.beq pc 9 then some (.ishr, 0, 0, 0, []) else bif Nat.beq pc 10 then some (.istore_n 2, 2, 0, 0, []) else bif Nat.beq pc 11 then some (.iload_n 1, 1, 0, 0, []) else none) else (bif Nat.beq pc 12 then some (.iload_n 2, 2, 0, 0, []) else bif Nat.beq pc 13 then some (.isub, 0, 0, 0, []) else bif Nat.beq pc 14 then some (.ifCond .le 24, 38, 0, 0, []) else none))) else (bif Nat.ble pc 24 then (bif Nat.ble pc 19 then (bif Nat.beq pc 17 then some (.aload_n 0, 0, 0, 0, []) else bif Nat.beq pc 18 then some (.aload_n 0, 0, 0, 0, []) else bif Nat.beq pc 19 then some (.getfield 15, 12, 0, 0, []) else none) else (bif Nat.beq pc 22 then some (.aload_n 0, 0, 0, 0, []) else bif Nat.beq pc 23 then some (.iload_n 1, 1, 0, 0, []) else bif Nat.beq pc 24 then some (.invokevirtual 104, 176, 1, 0, []) else none)) else (bif Nat.ble pc 31 then (bif Nat.beq pc 27 then some (.aload_n 0, 0, 0, 0, []) else bif Nat.beq pc 28 then some (.getfield 22, 12, 1, 0, []) else bif Nat.beq pc 31 then some (.ishl, 0, 0, 0, []) else none) else (bif Nat.beq pc 32 then some (.invokestatic 108, 187, 2, 0, []) else bif Nat.beq pc 35 then some (.putfield 15, 12, 0, 0, []) else bif Nat.beq pc 38 then some (.return_, 0, 0, 0, []) else none)))
def p176 (pc : Nat) : Option PE := bif Nat.ble pc 21 then (bif Nat.ble pc 11 then (bif Nat.ble pc 5 then (bif Nat.ble pc 1 then (bif Nat.beq pc 0 then some (.aload_n 0, 0, 0, 0, []) else bif Nat.beq pc 1 then some (.getfield 15, 12, 0, 0, []) else none) else (bif Nat.beq pc 4 then some (.arraylength, 0, 0, 0, []) else bif Nat.beq pc 5 then some (.istore_n 2, 2, 0, 0, []) else none)) else (bif Nat.ble pc 7 then (bif Nat.beq pc 6 then some (.iload_n 1, 1, 0, 0, []) else bif Nat.beq pc 7 then some (.aload_n 0, 0, 0, 0, []) else none) else (bif Nat.beq pc 8 then some (.getfield 22, 12, 1, 0, []) else bif Nat.beq pc 11 then some (.ishl, 0, 0, 0, []) else none))) else (bif Nat.ble pc 15 then (bif Nat.ble pc 13 then (bif Nat.beq pc 12 then some (.istore_n 3, 3, 0, 0, []) else bif Nat.beq pc 13 then some (.iload_n 3, 3, 0, 0, []) else none) else (bif Nat.beq pc 14 then some (.iload_n 2, 2, 0, 0, []) else bif Nat.beq pc 15 then some (.isub, 0, 0, 0, []) else none)) else (bif Nat.ble pc 18 then (bif Nat.beq pc 16 then some (.istore 4, 4, 0, 0, []) else bif Nat.beq pc 18 then some (.iload_n 2, 2, 0, 0, []) else none) else (bif Nat.beq pc 19 then some (.iload 4, 4, 0, 0, []) else bif Nat.beq pc 21 then some (.iload_n 2, 2, 0, 0, []) else none)))) else (bif Nat.ble pc 34 then (bif Nat.ble pc 27 then (bif Nat.ble pc 23 then (bif Nat.beq pc 22 then some (.iconst 2, 0, 0, 2, []) else bif Nat.beq pc 23 then some (.aload_n 0, 0, 0, 0, []) else none) else (bif Nat.beq pc 24 then some (.getfield 22, 12, 1, 0, []) else bif Nat.beq pc 27 then some (.ishl, 0, 0, 0, []) else none)) else (bif Nat.ble pc 29 then (bif Nat.beq pc 28 then some (.iadd, 0, 0, 0, []) else bif Nat.beq pc 29 then some (.invokestatic 114, 191, 3, 0, []) else none) else (bif Nat.beq pc 32 then some (.istore 5, 5, 0, 0, []) else bif Nat.beq pc 34 then some (.iload 5, 5, 0, 0, []) else none))) else (bif Nat.ble pc 51 then (bif Nat.ble pc 38 then (bif Nat.beq pc 36 then some (.ldc 39, 0, 0, 2147483647, []) else bif Nat.beq pc 38 then some (.if_icmp .ne 13, 51, 0, 0, []) else none) else (bif Nat.beq pc 44 then some (.dup, 0, 0, 0, []) else bif Nat.beq pc 51 then some (.iload 5, 5, 0, 0, []) else none)) else (bif Nat.ble pc 54 then (bif Nat.beq pc 53 then some (.aload_n 0, 0, 0, 0, []) else bif Nat.beq pc 54 then some (.getfield 22, 12, 1, 0, []) else none) else (bif Nat.beq pc 57 then some (.ishr, 0, 0, 0, []) else bif Nat.beq pc 58 then some (.ireturn, 0, 0, 0, []) else none))))
def p177 (pc : Nat) : Option PE := bif Nat.ble pc 7 then (bif Nat.ble pc 3 then (bif Nat.beq pc 0 then some (.getstatic 18, 0, 0, 1, []) else bif Nat.beq pc 3 then some (.ifCond .eq 14, 17, 0, 0, []) else none) else (bif Nat.beq pc 6 then some (.aload_n 0, 0, 0, 0, []) else bif Nat.beq pc 7 then some (.getfield 22, 12, 1, 0, []) else none)) else (bif Nat.ble pc 13 then (bif Nat.beq pc 10 then some (.ifCond .ne 7, 17, 0, 0, []) else bif Nat.beq pc 13 then some (.iconst 1, 0, 0, 1, []) else none) else (bif Nat.beq pc 14 then some (.goto 4, 18, 0, 0, []) else bif Nat.beq pc 17 then some (.iconst 0, 0, 0, 0, []) else bif Nat.beq pc 18 then some (.ireturn, 0, 0, 0, []) else none))
def p178 (pc : Nat) : Option PE := bif Nat.ble pc 6 then (bif Nat.ble pc 1 then (bif Nat.beq pc 0 then some (.aload_n 0, 0, 0, 0, []) else bif Nat.beq pc 1 then some (.aload_n 2, 2, 0, 0, []) else none) else (bif Nat.beq pc 2 then some (.invokevirtual 397, 179, 1, 0, []) else bif Nat.beq pc 5 then some (.aload_n 2, 2, 0, 0, []) else bif Nat.beq pc 6 then some (.aload_n 0, 0, 0, 0, []) else none)) else (bif Nat.ble pc 11 then (bif Nat.beq pc 7 then some (.getfield 15, 12, 0, 0, []) else bif Nat.beq pc 10 then some (.iload_n 1, 1, 0, 0, []) else bif Nat.beq pc 11 then some (.aload_n 0, 0, 0, 0, []) else none) else (bif Nat.beq pc 12 then some (.getfield 22, 12, 1, 0, []) else bif Nat.beq pc 15 then some (.invokevirtual 399, 184, 3, 0, []) else bif Nat.beq pc 18 then some (.return_, 0, 0, 0, []) else none))
def p179 (pc : Nat) : Option PE := bif Nat.ble pc 7 then (bif Nat.ble pc 3 then (bif Nat.beq pc 0 then some (.getstatic 18, 0, 0, 1, []) else bif Nat.beq pc 3 then some (.ifCond .eq 18, 21, 0, 0, []) else none) else (bif Nat.beq pc 6 then some (.aload_n 0, 0, 0, 0, []) else bif Nat.beq pc 7 then some (.getfield 22, 12, 1, 0, []) else none)) else (bif Nat.ble pc 11 then (bif Nat.beq pc 10 then some (.aload_n 1, 1, 0, 0, []) else bif Nat.beq pc 11 then some (.invokevirtual 40, 8, 0, 0, []) else none) else (bif Nat.beq pc 14 then some (.if_icmp .eq 7, 21, 0, 0, []) else bif Nat.beq pc 17 then some (.aload_n 0, 0, 0, 0, []) else bif Nat.beq pc 21 then some (.return_, 0, 0, 0, []) else none))
def p180 (pc : Nat) : Option PE := bif Nat.beq pc 0 then some (.aload_n 0, 0, 0, 0, []) else bif Nat.beq pc 1 then some (.getfield 15, 12, 0, 0, []) else bif Nat.beq pc 4 then some (.areturn, 0, 0, 0, []) else none
def p181 (pc : Nat) : Option PE := bif Nat.beq pc 0 then some (.aload_n 0, 0, 0, 0, []) else bif Nat.beq pc 1 then some (.getfield 79, 12, 3, 0, []) else bif Nat.beq pc 4 then some (.ireturn, 0, 0, 0, []) else none
def p182 (pc : Nat) : Option PE := bif Nat.ble pc 1 then (bif Nat.beq pc 0 then some (.aload_n 0, 0, 0, 0, []) else bif Nat.beq pc 1 then some (.aload_n 1, 1, 0, 0, []) else none) else (bif Nat.beq pc 2 then some (.aconst_null, 0, 0, 0, []) else bif Nat.beq pc 3 then some (.invokespecial 489, 183, 3, 0, []) else bif Nat.beq pc 6 then some (.return_, 0, 0, 0, []) else none)
def p183 (pc : Nat) : Option PE := bif Nat.ble pc 47 then (bif Nat.ble pc 22 then (bif Nat.ble pc 9 then (bif Nat.ble pc 4 then (bif Nat.beq pc 0 then some (.aload_n 0, 0, 0, 0, []) else bif Nat.beq pc 1 then some (.invokespecial 1, 0, 0, 0, []) else bif Nat.beq pc 4 then some (.aload_n 1, 1, 0, 0, []) else none) else (bif Nat.beq pc 5 then some (.invokevirtual 552, 180, 0, 0, []) else bif Nat.beq pc 8 then some (.astore_n 3, 3, 0, 0, []) else bif Nat.beq pc 9 then some (.aload_n 1, 1, 0, 0, []) else none)) else (bif Nat.ble pc 15 then (bif Nat.beq pc 10 then some (.invokevirtual 549, 171, 0, 0, []) else bif Nat.beq pc 13 then some (.istore 4, 4, 0, 0, []) else bif Nat.beq pc 15 then some (.aload_n 1, 1, 0, 0, []) else none) else (bif Nat.beq pc 16 then some (.invokevirtual 1047, 177, 0, 0, []) else bif Nat.beq pc 19 then some (.ifCond .eq 22, 41, 0, 0, []) else bif Nat.beq pc 22 then some (.aload_n 0, 0, 0, 0, []) else none))) else (bif Nat.ble pc 30 then (bif Nat.ble pc 27 then (bif Nat.beq pc 23 then some (.iconst 0, 0, 0, 0, []) else bif Nat.beq pc 24 then some (.putfield 15, 13, 1, 0, [0]) else bif Nat.beq pc 27 then some (.aload_n 0, 0, 0, 0, []) else none) else (bif Nat.beq pc 28 then some (.aload_n 3, 3, 0, 0, []) else bif Nat.beq pc 29 then some (.iconst 0, 0, 0, 0, []) else bif Nat.beq pc 30 then some (.iload 4, 4, 0, 0, []) else none)) else (bif Nat.ble pc 38 then (bif Nat.beq pc 32 then some (.invokestatic 54, 188, 3, 0, []) else bif Nat.beq pc 35 then some (.putfield 9, 13, 0, 0, [0]) else bif Nat.beq pc 38 then some (.goto 59, 97, 0, 0, []) else none) else (bif Nat.beq pc 41 then some (.getstatic 38, 0, 0, 1, []) else bif Nat.beq pc 44 then some (.ifCond .eq 35, 79, 0, 0, []) else bif Nat.beq pc 47 then some (.aload_n 1, 1, 0, 0, []) else none)))) else (bif Nat.ble pc 75 then (bif Nat.ble pc 57 then (bif Nat.ble pc 54 then (bif Nat.beq pc 48 then some (.getfield 1048, 12, 2, 0, []) else bif Nat.beq pc 51 then some (.ifCond .eq 28, 79, 0, 0, []) else bif Nat.beq pc 54 then some (.aload_n 0, 0, 0, 0, []) else none) else (bif Nat.beq pc 55 then some (.aload_n 3, 3, 0, 0, []) else bif Nat.beq pc 56 then some (.iconst 0, 0, 0, 0, []) else bif Nat.beq pc 57 then some (.iload 4, 4, 0, 0, []) else none)) else (bif Nat.ble pc 66 then (bif Nat.beq pc 62 then some (.putfield 9, 13, 0, 0, [0]) else bif Nat.beq pc 65 then some (.aload_n 0, 0, 0, 0, []) else bif Nat.beq pc 66 then some (.aload_n 0, 0, 0, 0, []) else none) else (bif Nat.beq pc 67 then some (.getfield 9, 13, 0, 0, []) else bif Nat.beq pc 70 then some (.iload 4, 4, 0, 0, []) else bif Nat.beq pc 75 then some (.putfield 15, 13, 1, 0, [0]) else none))) else (bif Nat.ble pc 85 then (bif Nat.ble pc 80 then (bif Nat.beq pc 78 then some (.return_, 0, 0, 0, []) else bif Nat.beq pc 79 then some (.aload_n 0, 0, 0, 0, []) else bif Nat.beq pc 80 then some (.iconst 1, 0, 0, 1, []) else none) else (bif Nat.beq pc 81 then some (.putfield 15, 13, 1, 0, [0]) else bif Nat.beq pc 84 then some (.aload_n 0, 0, 0, 0, []) else bif Nat.beq pc 85 then some (.aload_n 3, 3, 0, 0, []) else none)) else (bif Nat.ble pc 89 then (bif Nat.beq pc 86 then some (.iconst 0, 0, 0, 0, []) else bif Nat.beq pc 87 then some (.iload 4, 4, 0, 0, []) else bif Nat.beq pc 89 then some (.iconst 1, 0, 0, 1, []) else none) else (bif Nat.ble pc 91 then (bif Nat.beq pc 90 then some (.ishl, 0, 0, 0, []) else bif Nat.beq pc 91 then some (.invokestatic 54, 188, 3, 0, []) else none) else (bif Nat.beq pc 94 then some (.putfield 9, 13, 0, 0, [0]) else bif Nat.beq pc 97 then some (.return_, 0, 0, 0, []) else none)))))
def p184 (pc : Nat) : Option PE := bif Nat.ble pc 17 then (bif Nat.ble pc 9 then (bif Nat.ble pc 4 then (bif Nat.beq pc 0 then some (.aload_n 0, 0, 0, 0, []) else bif Nat.beq pc 1 then some (.invokevirtual 335, 8, 0, 0, []) else bif Nat.beq pc 4 then some (.iload_n 3, 3, 0, 0, []) else none) else (bif Nat.beq pc 5 then some (.if_icmp .ne 23, 28, 0, 0, []) else bif Nat.beq pc 8 then some (.aload_n 0, 0, 0, 0, []) else bif Nat.beq pc 9 then some (.getfield 9, 13, 0, 0, []) else none)) else (bif Nat.ble pc 14 then (bif Nat.beq pc 12 then some (.iconst 0, 0, 0, 0, []) else bif Nat.beq pc 13 then some (.aload_n 1, 1, 0, 0, []) else bif Nat.beq pc 14 then some (.iload_n 2, 2, 0, 0, []) else none) else (bif Nat.beq pc 15 then some (.iload_n 3, 3, 0, 0, []) else bif Nat.beq pc 16 then some (.ishl, 0, 0, 0, []) else bif Nat.beq pc 17 then some (.aload_n 0, 0, 0, 0, []) else none))) else (bif Nat.ble pc 29 then (bif Nat.ble pc 22 then (bif Nat.beq pc 18 then some (.getfield 9, 13, 0, 0, []) else bif Nat.beq pc 21 then some (.arraylength, 0, 0, 0, []) else bif Nat.beq pc 22 then some (.invokestatic 212, 0, 10, 0, []) else none) else (bif Nat.beq pc 25 then some (.goto 18, 43, 0, 0, []) else bif Nat.beq pc 28 then some (.aload_n 0, 0, 0, 0, []) else bif Nat.beq pc 29 then some (.getfield 9, 13, 0, 0, []) else none)) else (bif Nat.ble pc 34 then (bif Nat.beq pc 32 then some (.iconst 0, 0, 0, 0, []) else bif Nat.beq pc 33 then some (.aload_n 1, 1, 0, 0, []) else bif Nat.beq pc 34 then some (.iload_n 2, 2, 0, 0, []) else none) else (bif Nat.ble pc 36 then (bif Nat.beq pc 35 then some (.aload_n 0, 0, 0, 0, []) else bif Nat.beq pc 36 then some (.getfield 9, 13, 0, 0, []) else none) else (bif Nat.beq pc 39 then some (.arraylength, 0, 0, 0, []) else bif Nat.beq pc 43 then some (.return_, 0, 0, 0, []) else none))))
def p185 (pc : Nat) : Option PE := bif Nat.ble pc 19 then (bif Nat.ble pc 9 then (bif Nat.ble pc 3 then (bif Nat.ble pc 1 then (bif Nat.beq pc 0 then some (.iconst 1, 0, 0, 1, []) else bif Nat.beq pc 1 then some (.istore_n 1, 1, 0, 0, []) else none) else (bif Nat.beq pc 2 then some (.iload_n 0, 0, 0, 0, []) else bif Nat.beq pc 3 then some (.ifCond .lt 8, 11, 0, 0, []) else none)) else (bif Nat.ble pc 7 then (bif Nat.beq pc 6 then some (.iconst 0, 0, 0, 0, []) else bif Nat.beq pc 7 then some (.istore_n 1, 1, 0, 0, []) else none) else (bif Nat.beq pc 8 then some (.iload_n 0, 0, 0, 0, []) else bif Nat.beq pc 9 then some (.ineg, 0, 0, 0, []) else none))) else (bif Nat.ble pc 14 then (bif Nat.ble pc 11 then (bif Nat.beq pc 10 then some (.istore_n 0, 0, 0, 0, []) else bif Nat.beq pc 11 then some (.bipush (-10), 0, 0, -10, []) else none) else (bif Nat.beq pc 13 then some (.istore_n 2, 2, 0, 0, []) else bif Nat.beq pc 14 then some (.iconst 1, 0, 0, 1, []) else none)) else (bif Nat.ble pc 16 then (bif Nat.beq pc 15 then some (.istore_n 3, 3, 0, 0, []) else bif Nat.beq pc 16 then some (.iload_n 3, 3, 0, 0, []) else none) else (bif Nat.beq pc 17 then some (.bipush 10, 0, 0, 10, []) else bif Nat.beq pc 19 then some (.if_icmp .ge 23, 42, 0, 0, []) else none)))) else (bif Nat.ble pc 31 then (bif Nat.ble pc 27 then (bif Nat.ble pc 23 then (bif Nat.beq pc 22 then some (.iload_n 0, 0, 0, 0, []) else bif Nat.beq pc 23 then some (.iload_n 2, 2, 0, 0, []) else none) else (bif Nat.beq pc 24 then some (.if_icmp .le 7, 31, 0, 0, []) else bif Nat.beq pc 27 then some (.iload_n 3, 3, 0, 0, []) else none)) else (bif Nat.ble pc 29 then (bif Nat.beq pc 28 then some (.iload_n 1, 1, 0, 0, []) else bif Nat.beq pc 29 then some (.iadd, 0, 0, 0, []) else none) else (bif Nat.beq pc 30 then some (.ireturn, 0, 0, 0, []) else bif Nat.beq pc 31 then some (.bipush 10, 0, 0, 10, []) else none))) else (bif Nat.ble pc 36 then (bif Nat.ble pc 34 then (bif Nat.beq pc 33 then some (.iload_n 2, 2, 0, 0, []) else bif Nat.beq pc 34 then some (.imul, 0, 0, 0, []) else none) else (bif Nat.beq pc 35 then some (.istore_n 2, 2, 0, 0, []) else bif Nat.beq pc 36 then some (.iinc 3 1, 3, 0, 1, []) else none)) else (bif Nat.ble pc 42 then (bif Nat.beq pc 39 then some (.goto (-23), 16, 0, 0, []) else bif Nat.beq pc 42 then some (.bipush 10, 0, 0, 10, []) else none) else (bif Nat.beq pc 44 then some (.iload_n 1, 1, 0, 0, []) else bif Nat.beq pc 45 then some (.iadd, 0, 0, 0, []) else bif Nat.beq pc 46 then some (.ireturn, 0, 0, 0, []) else none))))
def p186 (pc : Nat) : Option PE := bif Nat.ble pc 55 then (bif Nat.ble pc 28 then (bif Nat.ble pc 12 then (bif Nat.ble pc 4 then (bif Nat.ble pc 1 then (bif Nat.beq pc 0 then some (.iload_n 1, 1, 0, 0, []) else bif Nat.beq pc 1 then some (.istore 5, 5, 0, 0, []) else none) else (bif Nat.beq pc 3 then some (.iload_n 0, 0, 0, 0, []) else bif Nat.beq pc 4 then some (.ifCond .ge 7, 11, 0, 0, []) else none)) else (bif Nat.ble pc 8 then (bif Nat.beq pc 7 then some (.iconst 1, 0, 0, 1, []) else bif Nat.beq pc 8 then some (.goto 4, 12, 0, 0, []) else none) else (bif Nat.beq pc 11 then some (.iconst 0, 0, 0, 0, []) else bif Nat.beq pc 12 then some (.istore 6, 6, 0, 0, []) else none))) else (bif Nat.ble pc 20 then (bif Nat.ble pc 16 then (bif Nat.beq pc 14 then some (.iload 6, 6, 0, 0, []) else bif Nat.beq pc 16 then some (.ifCond .ne 6, 22, 0, 0, []) else none) else (bif Nat.beq pc 19 then some (.iload_n 0, 0, 0, 0, []) else bif Nat.beq pc 20 then some (.ineg, 0, 0, 0, []) else none)) else (bif Nat.ble pc 22 then (bif Nat.beq pc 21 then some (.istore_n 0, 0, 0, 0, []) else bif Nat.beq pc 22 then some (.iload_n 0, 0, 0, 0, []) else none) else (bif Nat.beq pc 23 then some (.bipush (-100), 0, 0, -100, []) else bif Nat.beq pc 25 then some (.if_icmp .gt 47, 72, 0, 0, []) else bif Nat.beq pc 28 then some (.iload_n 0, 0, 0, 0, []) else none)))) else (bif Nat.ble pc 39 then (bif Nat.ble pc 33 then (bif Nat.ble pc 31 then (bif Nat.beq pc 29 then some (.bipush 100, 0, 0, 100, []) else bif Nat.beq pc 31 then some (.idiv, 0, 0, 0, []) else none) else (bif Nat.beq pc 32 then some (.istore_n 3, 3, 0, 0, []) else bif Nat.beq pc 33 then some (.iload_n 3, 3, 0, 0, []) else none)) else (bif Nat.ble pc 36 then (bif Nat.beq pc 34 then some (.bipush 100, 0, 0, 100, []) else bif Nat.beq pc 36 then some (.imul, 0, 0, 0, []) else none) else (bif Nat.beq pc 37 then some (.iload_n 0, 0, 0, 0, []) else bif Nat.beq pc 38 then some (.isub, 0, 0, 0, []) else bif Nat.beq pc 39 then some (.istore 4, 4, 0, 0, []) else none))) else (bif Nat.ble pc 44 then (bif Nat.ble pc 42 then (bif Nat.beq pc 41 then some (.iload_n 3, 3, 0, 0, []) else bif Nat.beq pc 42 then some (.istore_n 0, 0, 0, 0, []) else none) else (bif Nat.beq pc 43 then some (.aload_n 2, 2, 0, 0, []) else bif Nat.beq pc 44 then some (.iinc 5 (-1), 5, 0, -1, []) else none)) else (bif Nat.ble pc 49 then (bif Nat.beq pc 47 then some (.iload 5, 5, 0, 0, []) else bif Nat.beq pc 49 then some (.getstatic 83, 1, 142, 0, []) else none) else (bif Nat.beq pc 52 then some (.iload 4, 4, 0, 0, []) else bif Nat.beq pc 54 then some (.baload, 0, 0, 0, []) else bif Nat.beq pc 55 then some (.bastore, 0, 0, 0, []) else none))))) else (bif Nat.ble pc 86 then (bif Nat.ble pc 72 then (bif Nat.ble pc 62 then (bif Nat.ble pc 57 then (bif Nat.beq pc 56 then some (.aload_n 2, 2, 0, 0, []) else bif Nat.beq pc 57 then some (.iinc 5 (-1), 5, 0, -1, []) else none) else (bif Nat.beq pc 60 then some (.iload 5, 5, 0, 0, []) else bif Nat.beq pc 62 then some (.getstatic 87, 2, 143, 0, []) else none)) else (bif Nat.ble pc 67 then (bif Nat.beq pc 65 then some (.iload 4, 4, 0, 0, []) else bif Nat.beq pc 67 then some (.baload, 0, 0, 0, []) else none) else (bif Nat.beq pc 68 then some (.bastore, 0, 0, 0, []) else bif Nat.beq pc 69 then some (.goto (-47), 22, 0, 0, []) else bif Nat.beq pc 72 then some (.aload_n 2, 2, 0, 0, []) else none))) else (bif Nat.ble pc 81 then (bif Nat.ble pc 76 then (bif Nat.beq pc 73 then some (.iinc 5 (-1), 5, 0, -1, []) else bif Nat.beq pc 76 then some (.iload 5, 5, 0, 0, []) else none) else (bif Nat.beq pc 78 then some (.getstatic 83, 1, 142, 0, []) else bif Nat.beq pc 81 then some (.iload_n 0, 0, 0, 0, []) else none)) else (bif Nat.ble pc 83 then (bif Nat.beq pc 82 then some (.ineg, 0, 0, 0, []) else bif Nat.beq pc 83 then some (.baload, 0, 0, 0, []) else none) else (bif Nat.beq pc 84 then some (.bastore, 0, 0, 0, []) else bif Nat.beq pc 85 then some (.iload_n 0, 0, 0, 0, []) else bif Nat.beq pc 86 then some (.bipush (-9), 0, 0, -9, []) else none)))) else (bif Nat.ble pc 103 then (bif Nat.ble pc 95 then (bif Nat.ble pc 91 then (bif Nat.beq pc 88 then some (.if_icmp .ge 16, 104, 0, 0, []) else bif Nat.beq pc 91 then some (.aload_n 2, 2, 0, 0, []) else none) else (bif Nat.beq pc 92 then some (.iinc 5 (-1), 5, 0, -1, []) else bif Nat.beq pc 95 then some (.iload 5, 5, 0, 0, []) else none)) else (bif Nat.ble pc 100 then (bif Nat.beq pc 97 then some (.getstatic 87, 2, 143, 0, []) else bif Nat.beq pc 100 then some (.iload_n 0, 0, 0, 0, []) else none) else (bif Nat.beq pc 101 then some (.ineg, 0, 0, 0, []) else bif Nat.beq pc 102 then some (.baload, 0, 0, 0, []) else bif Nat.beq pc 103 then some (.bastore, 0, 0, 0, []) else none))) else (bif Nat.ble pc 110 then (bif Nat.ble pc 106 then (bif Nat.beq pc 104 then some (.iload 6, 6, 0, 0, []) else bif Nat.beq pc 106 then some (.ifCond .eq 12, 118, 0, 0, []) else none) else (bif Nat.beq pc 109 then some (.aload_n 2, 2, 0, 0, []) else bif Nat.beq pc 110 then some (.iinc 5 (-1), 5, 0, -1, []) else none)) else (bif Nat.ble pc 115 then (bif Nat.beq pc 113 then some (.iload 5, 5, 0, 0, []) else bif Nat.beq pc 115 then some (.bipush 45, 0, 0, 45, []) else none) else (bif Nat.beq pc 117 then some (.bastore, 0, 0, 0, []) else bif Nat.beq pc 118 then some (.iload 5, 5, 0, 0, []) else bif Nat.beq pc 120 then some (.ireturn, 0, 0, 0, []) else none)))))
def p187 (pc : Nat) : Option PE := bif Nat.ble pc 17 then (bif Nat.ble pc 6 then (bif Nat.ble pc 1 then (bif Nat.beq pc 0 then some (.iload_n 1, 1, 0, 0, []) else bif Nat.beq pc 1 then some (.aload_n 0, 0, 0, 0, []) else none) else (bif Nat.beq pc 2 then some (.arraylength, 0, 0, 0, []) else bif Nat.beq pc 3 then some (.if_icmp .ne 11, 14, 0, 0, []) else bif Nat.beq pc 6 then some (.aload_n 0, 0, 0, 0, []) else none)) else (bif Nat.ble pc 13 then (bif Nat.beq pc 7 then some (.invokevirtual 310, 0, 0, 0, [0, 0]) else bif Nat.beq pc 10 then some (.checkcast 311, 1, 0, 0, []) else bif Nat.beq pc 13 then some (.areturn, 0, 0, 0, []) else none) else (bif Nat.beq pc 14 then some (.iload_n 1, 1, 0, 0, []) else bif Nat.beq pc 15 then some (.newarray .byte, 1, 0, 0, []) else bif Nat.beq pc 17 then some (.astore_n 2, 2, 0, 0, []) else none))) else (bif Nat.ble pc 22 then (bif Nat.ble pc 19 then (bif Nat.beq pc 18 then some (.aload_n 0, 0, 0, 0, []) else bif Nat.beq pc 19 then some (.iconst 0, 0, 0, 0, []) else none) else (bif Nat.beq pc 20 then some (.aload_n 2, 2, 0, 0, []) else bif Nat.beq pc 21 then some (.iconst 0, 0, 0, 0, []) else bif Nat.beq pc 22 then some (.aload_n 0, 0, 0, 0, []) else none)) else (bif Nat.ble pc 25 then (bif Nat.beq pc 23 then some (.arraylength, 0, 0, 0, []) else bif Nat.beq pc 24 then some (.iload_n 1, 1, 0, 0, []) else bif Nat.beq pc 25 then some (.invokestatic 304, 40, 2, 0, []) else none) else (bif Nat.beq pc 28 then some (.invokestatic 150, 0, 10, 0, []) else bif Nat.beq pc 31 then some (.aload_n 2, 2, 0, 0, []) else bif Nat.beq pc 32 then some (.areturn, 0, 0, 0, []) else none)))
def p188 (pc : Nat) : Option PE := bif Nat.ble pc 10 then (bif Nat.ble pc 4 then (bif Nat.beq pc 0 then some (.iload_n 1, 1, 0, 0, []) else bif Nat.beq pc 1 then some (.ifCond .ne 9, 10, 0, 0, []) else bif Nat.beq pc 4 then some (.iload_n 2, 2, 0, 0, []) else none) else (bif Nat.ble pc 6 then (bif Nat.beq pc 5 then some (.aload_n 0, 0, 0, 0, []) else bif Nat.beq pc 6 then some (.arraylength, 0, 0, 0, []) else none) else (bif Nat.beq pc 7 then some (.if_icmp .eq 10, 17, 0, 0, []) else bif Nat.beq pc 10 then some (.aload_n 0, 0, 0, 0, []) else none))) else (bif Nat.ble pc 16 then (bif Nat.ble pc 12 then (bif Nat.beq pc 11 then some (.iload_n 1, 1, 0, 0, []) else bif Nat.beq pc 12 then some (.iload_n 2, 2, 0, 0, []) else none) else (bif Nat.beq pc 13 then some (.invokestatic 339, 189, 3, 0, []) else bif Nat.beq pc 16 then some (.areturn, 0, 0, 0, []) else none)) else (bif Nat.ble pc 18 then (bif Nat.beq pc 17 then some (.aload_n 0, 0, 0, 0, []) else bif Nat.beq pc 18 then some (.invokevirtual 310, 0, 0, 0, [0, 0]) else none) else (bif Nat.beq pc 21 then some (.checkcast 311, 1, 0, 0, []) else bif Nat.beq pc 24 then some (.areturn, 0, 0, 0, []) else none)))
def p189 (pc : Nat) : Option PE := bif Nat.ble pc 14 then (bif Nat.ble pc 6 then (bif Nat.ble pc 1 then (bif Nat.beq pc 0 then some (.iload_n 1, 1, 0, 0, []) else bif Nat.beq pc 1 then some (.iload_n 2, 2, 0, 0, []) else none) else (bif Nat.beq pc 2 then some (.invokestatic 343, 190, 2, 0, []) else bif Nat.beq pc 5 then some (.iload_n 2, 2, 0, 0, []) else bif Nat.beq pc 6 then some (.iload_n 1, 1, 0, 0, []) else none)) else (bif Nat.ble pc 9 then (bif Nat.beq pc 7 then some (.isub, 0, 0, 0, []) else bif Nat.beq pc 8 then some (.istore_n 3, 3, 0, 0, []) else bif Nat.beq pc 9 then some (.iload_n 3, 3, 0, 0, []) else none) else (bif Nat.beq pc 10 then some (.newarray .byte, 1, 0, 0, []) else bif Nat.beq pc 12 then some (.astore 4, 4, 0, 0, []) else bif Nat.beq pc 14 then some (.aload_n 0, 0, 0, 0, []) else none))) else (bif Nat.ble pc 21 then (bif Nat.ble pc 18 then (bif Nat.beq pc 15 then some (.iload_n 1, 1, 0, 0, []) else bif Nat.beq pc 16 then some (.aload 4, 4, 0, 0, []) else bif Nat.beq pc 18 then some (.iconst 0, 0, 0, 0, []) else none) else (bif Nat.beq pc 19 then some (.aload_n 0, 0, 0, 0, []) else bif Nat.beq pc 20 then some (.arraylength, 0, 0, 0, []) else bif Nat.beq pc 21 then some (.iload_n 1, 1, 0, 0, []) else none)) else (bif Nat.ble pc 24 then (bif Nat.beq pc 22 then some (.isub, 0, 0, 0, []) else bif Nat.beq pc 23 then some (.iload_n 3, 3, 0, 0, []) else bif Nat.beq pc 24 then some (.invokestatic 304, 40, 2, 0, []) else none) else (bif Nat.beq pc 27 then some (.invokestatic 150, 0, 10, 0, []) else bif Nat.beq pc 30 then some (.aload 4, 4, 0, 0, []) else bif Nat.beq pc 32 then some (.areturn, 0, 0, 0, []) else none)))
def p190 (pc : Nat) : Option PE := bif Nat.ble pc 8 then (bif Nat.ble pc 1 then (bif Nat.beq pc 0 then some (.iload_n 1, 1, 0, 0, []) else bif Nat.beq pc 1 then some (.iload_n 0, 0, 0, 0, []) else none) else (bif Nat.beq pc 2 then some (.if_icmp .ge 35, 37, 0, 0, []) else bif Nat.beq pc 8 then some (.dup, 0, 0, 0, []) else none)) else (bif Nat.ble pc 16 then (bif Nat.beq pc 12 then some (.dup, 0, 0, 0, []) else bif Nat.beq pc 16 then some (.iload_n 0, 0, 0, 0, []) else none) else (bif Nat.beq pc 26 then some (.iload_n 1, 1, 0, 0, []) else bif Nat.beq pc 37 then some (.return_, 0, 0, 0, []) else none))
def p191 (pc : Nat) : Option PE := bif Nat.ble pc 9 then (bif Nat.ble pc 3 then (bif Nat.ble pc 1 then (bif Nat.beq pc 0 then some (.iload_n 0, 0, 0, 0, []) else bif Nat.beq pc 1 then some (.iload_n 1, 1, 0, 0, []) else none) else (bif Nat.beq pc 2 then some (.iload_n 2, 2, 0, 0, []) else bif Nat.beq pc 3 then some (.invokestatic 194, 39, 2, 0, []) else none)) else (bif Nat.ble pc 7 then (bif Nat.beq pc 6 then some (.iadd, 0, 0, 0, []) else bif Nat.beq pc 7 then some (.istore_n 3, 3, 0, 0, []) else none) else (bif Nat.beq pc 8 then some (.iconst 0, 0, 0, 0, []) else bif Nat.beq pc 9 then some (.iload_n 3, 3, 0, 0, []) else none))) else (bif Nat.ble pc 16 then (bif Nat.ble pc 13 then (bif Nat.beq pc 10 then some (.if_icmp .ge 11, 21, 0, 0, []) else bif Nat.beq pc 13 then some (.iload_n 3, 3, 0, 0, []) else none) else (bif Nat.beq pc 14 then some (.ldc 200, 0, 0, 2147483639, []) else bif Nat.beq pc 16 then some (.if_icmp .gt 5, 21, 0, 0, []) else none)) else (bif Nat.ble pc 20 then (bif Nat.beq pc 19 then some (.iload_n 3, 3, 0, 0, []) else bif Nat.beq pc 20 then some (.ireturn, 0, 0, 0, []) else none) else (bif Nat.beq pc 21 then some (.iload_n 0, 0, 0, 0, []) else bif Nat.beq pc 22 then some (.iload_n 1, 1, 0, 0, []) else bif Nat.beq pc 26 then some (.ireturn, 0, 0, 0, []) else none)))
def p192 (pc : Nat) : Option PE := bif Nat.ble pc 8 then (bif Nat.ble pc 2 then (bif Nat.beq pc 0 then some (.iload_n 1, 1, 0, 0, []) else bif Nat.beq pc 1 then some (.aload_n 0, 0, 0, 0, []) else bif Nat.beq pc 2 then some (.arraylength, 0, 0, 0, []) else none) else (bif Nat.ble pc 6 then (bif Nat.beq pc 3 then some (.if_icmp .ge 12, 15, 0, 0, []) else bif Nat.beq pc 6 then some (.aload_n 0, 0, 0, 0, []) else none) else (bif Nat.beq pc 7 then some (.iload_n 1, 1, 0, 0, []) else bif Nat.beq pc 8 then some (.iaload, 19, 0, 0, []) else none))) else (bif Nat.ble pc 12 then (bif Nat.beq pc 9 then some (.ldc 7, 0, 0, 16777215, []) else bif Nat.beq pc 11 then some (.iand, 0, 0, 0, []) else bif Nat.beq pc 12 then some (.goto 8, 20, 0, 0, []) else none) else (bif Nat.ble pc 16 then (bif Nat.beq pc 15 then some (.iload_n 1, 1, 0, 0, []) else bif Nat.beq pc 16 then some (.sipush 9151, 0, 0, 9151, []) else none) else (bif Nat.beq pc 19 then some (.imul, 0, 0, 0, []) else bif Nat.beq pc 20 then some (.ireturn, 0, 0, 0, []) else none)))
def p193 (pc : Nat) : Option PE := bif Nat.ble pc 21 then (bif Nat.ble pc 10 then (bif Nat.ble pc 2 then (bif Nat.beq pc 0 then some (.iconst 0, 0, 0, 0, []) else bif Nat.beq pc 1 then some (.istore_n 2, 2, 0, 0, []) else bif Nat.beq pc 2 then some (.iload_n 2, 2, 0, 0, []) else none) else (bif Nat.ble pc 4 then (bif Nat.beq pc 3 then some (.aload_n 1, 1, 0, 0, []) else bif Nat.beq pc 4 then some (.invokevirtual 8, 7, 0, 0, []) else none) else (bif Nat.beq pc 7 then some (.if_icmp .ge 26, 33, 0, 0, []) else bif Nat.beq pc 10 then some (.aload_n 0, 0, 0, 0, []) else none))) else (bif Nat.ble pc 13 then (bif Nat.beq pc 11 then some (.aload_n 1, 1, 0, 0, []) else bif Nat.beq pc 12 then some (.iload_n 2, 2, 0, 0, []) else bif Nat.beq pc 13 then some (.invokevirtual 14, 20, 1, 0, []) else none) else (bif Nat.ble pc 19 then (bif Nat.beq pc 16 then some (.invokevirtual 18, 11, 1, 0, []) else bif Nat.beq pc 19 then some (.iload_n 2, 2, 0, 0, []) else none) else (bif Nat.beq pc 20 then some (.iconst 1, 0, 0, 1, []) else bif Nat.beq pc 21 then some (.iadd, 0, 0, 0, []) else none)))) else (bif Nat.ble pc 34 then (bif Nat.ble pc 26 then (bif Nat.beq pc 22 then some (.if_icmp .eq 5, 27, 0, 0, []) else bif Nat.beq pc 25 then some (.iconst 0, 0, 0, 0, []) else bif Nat.beq pc 26 then some (.ireturn, 0, 0, 0, []) else none) else (bif Nat.ble pc 30 then (bif Nat.beq pc 27 then some (.iinc 2 1, 2, 0, 1, []) else bif Nat.beq pc 30 then some (.goto (-28), 2, 0, 0, []) else none) else (bif Nat.beq pc 33 then some (.aload_n 0, 0, 0, 0, []) else bif Nat.beq pc 34 then some (.iconst 2, 0, 0, 2, []) else none))) else (bif Nat.ble pc 42 then (bif Nat.ble pc 38 then (bif Nat.beq pc 35 then some (.invokevirtual 24, 162, 1, 0, []) else bif Nat.beq pc 38 then some (.aload_n 1, 1, 0, 0, []) else none) else (bif Nat.beq pc 39 then some (.invokevirtual 8, 7, 0, 0, []) else bif Nat.beq pc 42 then some (.if_icmp .ne 7, 49, 0, 0, []) else none)) else (bif Nat.ble pc 46 then (bif Nat.beq pc 45 then some (.iconst 1, 0, 0, 1, []) else bif Nat.beq pc 46 then some (.goto 4, 50, 0, 0, []) else none) else (bif Nat.beq pc 49 then some (.iconst 0, 0, 0, 0, []) else bif Nat.beq pc 50 then some (.ireturn, 0, 0, 0, []) else none))))
def p194 (pc : Nat) : Option PE := bif Nat.ble pc 13 then (bif Nat.ble pc 5 then (bif Nat.ble pc 1 then (bif Nat.beq pc 0 then some (.aload_n 0, 0, 0, 0, []) else bif Nat.beq pc 1 then some (.aload_n 1, 1, 0, 0, []) else none) else (bif Nat.beq pc 2 then some (.invokestatic 27, 193, 2, 0, []) else bif Nat.beq pc 5 then some (.ifCond .eq 28, 33, 0, 0, []) else none)) else (bif Nat.ble pc 9 then (bif Nat.beq pc 8 then some (.aload_n 0, 0, 0, 0, []) else bif Nat.beq pc 9 then some (.iload_n 2, 2, 0, 0, []) else none) else (bif Nat.beq pc 10 then some (.iload_n 3, 3, 0, 0, []) else bif Nat.beq pc 11 then some (.iload 4, 4, 0, 0, []) else bif Nat.beq pc 13 then some (.invokevirtual 33, 14, 3, 0, []) else none))) else (bif Nat.ble pc 23 then (bif Nat.ble pc 18 then (bif Nat.beq pc 16 then some (.iload 5, 5, 0, 0, []) else bif Nat.beq pc 18 then some (.if_icmp .ne 15, 33, 0, 0, []) else none) else (bif Nat.beq pc 21 then some (.aload_n 0, 0, 0, 0, []) else bif Nat.beq pc 22 then some (.iconst 2, 0, 0, 2, []) else bif Nat.beq pc 23 then some (.invokevirtual 24, 162, 1, 0, []) else none)) else (bif Nat.ble pc 29 then (bif Nat.beq pc 26 then some (.ifCond .ne 7, 33, 0, 0, []) else bif Nat.beq pc 29 then some (.iconst 1, 0, 0, 1, []) else none) else (bif Nat.beq pc 30 then some (.goto 4, 34, 0, 0, []) else bif Nat.beq pc 33 then some (.iconst 0, 0, 0, 0, []) else bif Nat.beq pc 34 then some (.ireturn, 0, 0, 0, []) else none)))
def p195 (pc : Nat) : Option PE := bif Nat.ble pc 2 then (bif Nat.beq pc 0 then some (.bipush 8, 0, 0, 8, []) else bif Nat.beq pc 2 then some (.iconst 5, 0, 0, 5, []) else none) else (bif Nat.beq pc 3 then some (.multianewarray 37 2, 27, 0, 0, []) else bif Nat.beq pc 7 then some (.areturn, 0, 0, 0, []) else none)
def p196 (pc : Nat) : Option PE := bif Nat.ble pc 1 then (bif Nat.beq pc 0 then some (.iload_n 0, 0, 0, 0, []) else bif Nat.beq pc 1 then some (.iconst 3, 0, 0, 3, []) else none) else (bif Nat.beq pc 2 then some (.irem, 0, 0, 0, []) else bif Nat.beq pc 3 then some (.ireturn, 0, 0, 0, []) else none)
def p197 (pc : Nat) : Option PE := bif Nat.ble pc 8 then (bif Nat.ble pc 3 then (bif Nat.beq pc 0 then some (.iload_n 0, 0, 0, 0, []) else bif Nat.beq pc 1 then some (.bipush 64, 0, 0, 64, []) else bif Nat.beq pc 3 then some (.iand, 0, 0, 0, []) else none) else (bif Nat.beq pc 4 then some (.ifCond .ne 7, 11, 0, 0, []) else bif Nat.beq pc 7 then some (.iconst 1, 0, 0, 1, []) else bif Nat.beq pc 8 then some (.goto 10, 18, 0, 0, []) else none)) else (bif Nat.ble pc 14 then (bif Nat.beq pc 11 then some (.iload_n 0, 0, 0, 0, []) else bif Nat.beq pc 12 then some (.bipush 7, 0, 0, 7, []) else bif Nat.beq pc 14 then some (.ishr, 0, 0, 0, []) else none) else (bif Nat.beq pc 15 then some (.bipush 8, 0, 0, 8, []) else bif Nat.beq pc 17 then some (.irem, 0, 0, 0, []) else bif Nat.beq pc 18 then some (.ireturn, 0, 0, 0, []) else none))
def p198 (pc : Nat) : Option PE := bif Nat.ble pc 10 then (bif Nat.ble pc 4 then (bif Nat.beq pc 0 then some (.iload_n 0, 0, 0, 0, []) else bif Nat.beq pc 1 then some (.invokestatic 39, 197, 1, 0, []) else bif Nat.beq pc 4 then some (.bipush 7, 0, 0, 7, []) else none) else (bif Nat.beq pc 6 then some (.if_icmp .ne 7, 13, 0, 0, []) else bif Nat.beq pc 9 then some (.iconst 0, 0, 0, 0, []) else bif Nat.beq pc 10 then some (.goto 10, 20, 0, 0, []) else none)) else (bif Nat.ble pc 16 then (bif Nat.beq pc 13 then some (.iload_n 0, 0, 0, 0, []) else bif Nat.beq pc 14 then some (.bipush 10, 0, 0, 10, []) else bif Nat.beq pc 16 then some (.ishr, 0, 0, 0, []) else none) else (bif Nat.beq pc 17 then some (.bipush 40, 0, 0, 40, []) else bif Nat.beq pc 19 then some (.irem, 0, 0, 0, []) else bif Nat.beq pc 20 then some (.ireturn, 0, 0, 0, []) else none))
def p199 (pc : Nat) : Option PE := bif Nat.ble pc 3 then (bif Nat.beq pc 0 then some (.iload_n 0, 0, 0, 0, []) else bif Nat.beq pc 1 then some (.bipush 16, 0, 0, 16, []) else bif Nat.beq pc 3 then some (.ishr, 0, 0, 0, []) else none) else (bif Nat.beq pc 4 then some (.iconst 3, 0, 0, 3, []) else bif Nat.beq pc 5 then some (.irem, 0, 0, 0, []) else bif Nat.beq pc 6 then some (.ireturn, 0, 0, 0, []) else none)
def p200 (pc : Nat) : Option PE := bif Nat.ble pc 49 then (bif Nat.ble pc 24 then (bif Nat.ble pc 12 then (bif Nat.ble pc 6 then (bif Nat.ble pc 2 then (bif Nat.beq pc 0 then some (.bipush 8, 0, 0, 8, []) else bif Nat.beq pc 2 then some (.anewarray 9, 26, 0, 0, []) else none) else (bif Nat.beq pc 5 then some (.dup, 0, 0, 0, []) else bif Nat.beq pc 6 then some (.iconst 0, 0, 0, 0, []) else none)) else (bif Nat.ble pc 9 then (bif Nat.beq pc 7 then some (.ldc 42, 1, 21, 0, []) else bif Nat.beq pc 9 then some (.aastore, 26, 0, 0, []) else none) else (bif Nat.beq pc 10 then some (.dup, 0, 0, 0, []) else bif Nat.beq pc 11 then some (.iconst 1, 0, 0, 1, []) else bif Nat.beq pc 12 then some (.ldc 44, 1, 43, 0, []) else none))) else (bif Nat.ble pc 17 then (bif Nat.ble pc 15 then (bif Nat.beq pc 14 then some (.aastore, 26, 0, 0, []) else bif Nat.beq pc 15 then some (.dup, 0, 0, 0, []) else none) else (bif Nat.beq pc 16 then some (.iconst 2, 0, 0, 2, []) else bif Nat.beq pc 17 then some (.ldc 46, 1, 106, 0, []) else none)) else (bif Nat.ble pc 20 then (bif Nat.beq pc 19 then some (.aastore, 26, 0, 0, []) else bif Nat.beq pc 20 then some (.dup, 0, 0, 0, []) else none) else (bif Nat.beq pc 21 then some (.iconst 3, 0, 0, 3, []) else bif Nat.beq pc 22 then some (.ldc 48, 1, 108, 0, []) else bif Nat.beq pc 24 then some (.aastore, 26, 0, 0, []) else none)))) else (bif Nat.ble pc 35 then (bif Nat.ble pc 29 then (bif Nat.ble pc 26 then (bif Nat.beq pc 25 then some (.dup, 0, 0, 0, []) else bif Nat.beq pc 26 then some (.iconst 4, 0, 0, 4, []) else none) else (bif Nat.beq pc 27 then some (.ldc 50, 1, 110, 0, []) else bif Nat.beq pc 29 then some (.aastore, 26, 0, 0, []) else none)) else (bif Nat.ble pc 31 then (bif Nat.beq pc 30 then some (.dup, 0, 0, 0, []) else bif Nat.beq pc 31 then some (.iconst 5, 0, 0, 5, []) else none) else (bif Nat.beq pc 32 then some (.ldc 52, 1, 112, 0, []) else bif Nat.beq pc 34 then some (.aastore, 26, 0, 0, []) else bif Nat.beq pc 35 then some (.dup, 0, 0, 0, []) else none))) else (bif Nat.ble pc 42 then (bif Nat.ble pc 38 then (bif Nat.beq pc 36 then some (.bipush 6, 0, 0, 6, []) else bif Nat.beq pc 38 then some (.ldc 54, 1, 114, 0, []) else none) else (bif Nat.beq pc 40 then some (.aastore, 26, 0, 0, []) else bif Nat.beq pc 41 then some (.dup, 0, 0, 0, []) else bif Nat.beq pc 42 then some (.bipush 7, 0, 0, 7, []) else none)) else (bif Nat.ble pc 46 then (bif Nat.beq pc 44 then some (.ldc 56, 1, 116, 0, []) else bif Nat.beq pc 46 then some (.aastore, 26, 0, 0, []) else none) else (bif Nat.beq pc 47 then some (.astore_n 1, 1, 0, 0, []) else bif Nat.beq pc 48 then some (.aload_n 1, 1, 0, 0, []) else bif Nat.beq pc 49 then some (.iload_n 0, 0, 0, 0, []) else none))))) else (bif Nat.ble pc 87 then (bif Nat.ble pc 67 then (bif Nat.ble pc 55 then (bif Nat.ble pc 53 then (bif Nat.beq pc 50 then some (.invokestatic 39, 197, 1, 0, []) else bif Nat.beq pc 53 then some (.aaload, 26, 0, 0, []) else none) else (bif Nat.beq pc 54 then some (.astore_n 2, 2, 0, 0, []) else bif Nat.beq pc 55 then some (.iload_n 0, 0, 0, 0, []) else none)) else (bif Nat.ble pc 59 then (bif Nat.beq pc 56 then some (.invokestatic 39, 197, 1, 0, []) else bif Nat.beq pc 59 then some (.bipush 7, 0, 0, 7, []) else none) else (bif Nat.beq pc 61 then some (.if_icmp .ge 30, 91, 0, 0, []) else bif Nat.beq pc 64 then some (.new 58, 12, 0, 0, []) else bif Nat.beq pc 67 then some (.dup, 0, 0, 0, []) else none))) else (bif Nat.ble pc 75 then (bif Nat.ble pc 71 then (bif Nat.beq pc 68 then some (.invokespecial 60, 167, 1, 0, []) else bif Nat.beq pc 71 then some (.aload_n 2, 2, 0, 0, []) else none) else (bif Nat.beq pc 72 then some (.invokevirtual 61, 168, 1, 0, []) else bif Nat.beq pc 75 then some (.ldc 65, 1, 118, 0, []) else none)) else (bif Nat.ble pc 80 then (bif Nat.beq pc 77 then some (.invokevirtual 61, 168, 1, 0, []) else bif Nat.beq pc 80 then some (.iload_n 0, 0, 0, 0, []) else none) else (bif Nat.beq pc 81 then some (.invokestatic 67, 198, 1, 0, []) else bif Nat.beq pc 84 then some (.invokevirtual 70, 169, 1, 0, []) else bif Nat.beq pc 87 then some (.invokevirtual 73, 170, 0, 0, []) else none)))) else (bif Nat.ble pc 107 then (bif Nat.ble pc 95 then (bif Nat.ble pc 91 then (bif Nat.beq pc 90 then some (.astore_n 2, 2, 0, 0, []) else bif Nat.beq pc 91 then some (.iload_n 0, 0, 0, 0, []) else none) else (bif Nat.beq pc 92 then some (.invokestatic 39, 197, 1, 0, []) else bif Nat.beq pc 95 then some (.bipush 6, 0, 0, 6, []) else none)) else (bif Nat.ble pc 100 then (bif Nat.beq pc 97 then some (.if_icmp .ne 32, 129, 0, 0, []) else bif Nat.beq pc 100 then some (.new 58, 12, 0, 0, []) else none) else (bif Nat.beq pc 103 then some (.dup, 0, 0, 0, []) else bif Nat.beq pc 104 then some (.invokespecial 60, 167, 1, 0, []) else bif Nat.beq pc 107 then some (.aload_n 2, 2, 0, 0, []) else none))) else (bif Nat.ble pc 117 then (bif Nat.ble pc 111 then (bif Nat.beq pc 108 then some (.invokevirtual 61, 168, 1, 0, []) else bif Nat.beq pc 111 then some (.ldc 77, 1, 120, 0, []) else none) else (bif Nat.beq pc 113 then some (.invokevirtual 61, 168, 1, 0, []) else bif Nat.beq pc 116 then some (.iload_n 0, 0, 0, 0, []) else bif Nat.beq pc 117 then some (.invokestatic 79, 199, 1, 0, []) else none)) else (bif Nat.ble pc 123 then (bif Nat.beq pc 120 then some (.invokevirtual 70, 169, 1, 0, []) else bif Nat.beq pc 123 then some (.invokevirtual 73, 170, 0, 0, []) else none) else (bif Nat.beq pc 126 then some (.goto 4, 130, 0, 0, []) else bif Nat.beq pc 129 then some (.aload_n 2, 2, 0, 0, []) else bif Nat.beq pc 130 then some (.areturn, 0, 0, 0, []) else none)))))
def p201 (pc : Nat) : Option PE := bif Nat.ble pc 17 then (bif Nat.ble pc 8 then (bif Nat.ble pc 2 then (bif Nat.beq pc 0 then some (.iconst 0, 0, 0, 0, []) else bif Nat.beq pc 1 then some (.istore_n 2, 2, 0, 0, []) else bif Nat.beq pc 2 then some (.iload_n 2, 2, 0, 0, []) else none) else (bif Nat.ble pc 4 then (bif Nat.beq pc 3 then some (.iconst 3, 0, 0, 3, []) else bif Nat.beq pc 4 then some (.if_icmp .ge 38, 42, 0, 0, []) else none) else (bif Nat.beq pc 7 then some (.iconst 0, 0, 0, 0, []) else bif Nat.beq pc 8 then some (.istore_n 3, 3, 0, 0, []) else none))) else (bif Nat.ble pc 11 then (bif Nat.beq pc 9 then some (.iload_n 3, 3, 0, 0, []) else bif Nat.beq pc 10 then some (.iconst 5, 0, 0, 5, []) else bif Nat.beq pc 11 then some (.if_icmp .ge 25, 36, 0, 0, []) else none) else (bif Nat.ble pc 15 then (bif Nat.beq pc 14 then some (.aload_n 0, 0, 0, 0, []) else bif Nat.beq pc 15 then some (.iload_n 2, 2, 0, 0, []) else none) else (bif Nat.beq pc 16 then some (.iload_n 3, 3, 0, 0, []) else bif Nat.beq pc 17 then some (.invokevirtual 85, 87, 2, 0, []) else none)))) else (bif Nat.ble pc 28 then (bif Nat.ble pc 22 then (bif Nat.beq pc 20 then some (.aload_n 1, 1, 0, 0, []) else bif Nat.beq pc 21 then some (.iload_n 2, 2, 0, 0, []) else bif Nat.beq pc 22 then some (.aaload, 27, 0, 0, []) else none) else (bif Nat.ble pc 24 then (bif Nat.beq pc 23 then some (.iload_n 3, 3, 0, 0, []) else bif Nat.beq pc 24 then some (.iaload, 20, 0, 0, []) else none) else (bif Nat.beq pc 25 then some (.if_icmp .eq 5, 30, 0, 0, []) else bif Nat.beq pc 28 then some (.iconst 0, 0, 0, 0, []) else none))) else (bif Nat.ble pc 33 then (bif Nat.beq pc 29 then some (.ireturn, 0, 0, 0, []) else bif Nat.beq pc 30 then some (.iinc 3 1, 3, 0, 1, []) else bif Nat.beq pc 33 then some (.goto (-24), 9, 0, 0, []) else none) else (bif Nat.ble pc 39 then (bif Nat.beq pc 36 then some (.iinc 2 1, 2, 0, 1, []) else bif Nat.beq pc 39 then some (.goto (-37), 2, 0, 0, []) else none) else (bif Nat.beq pc 42 then some (.iconst 1, 0, 0, 1, []) else bif Nat.beq pc 43 then some (.ireturn, 0, 0, 0, []) else none))))
def p202 (pc : Nat) : Option PE := bif Nat.ble pc 30 then (bif Nat.ble pc 15 then (bif Nat.ble pc 6 then (bif Nat.ble pc 2 then (bif Nat.beq pc 0 then some (.aload_n 1, 1, 0, 0, []) else bif Nat.beq pc 1 then some (.iconst 0, 0, 0, 0, []) else bif Nat.beq pc 2 then some (.aaload, 27, 0, 0, []) else none) else (bif Nat.ble pc 4 then (bif Nat.beq pc 3 then some (.iconst 0, 0, 0, 0, []) else bif Nat.beq pc 4 then some (.iconst 1, 0, 0, 1, []) else none) else (bif Nat.beq pc 5 then some (.iastore, 0, 0, 0, []) else bif Nat.beq pc 6 then some (.aload_n 1, 1, 0, 0, []) else none))) else (bif Nat.ble pc 10 then (bif Nat.ble pc 8 then (bif Nat.beq pc 7 then some (.iconst 0, 0, 0, 0, []) else bif Nat.beq pc 8 then some (.aaload, 27, 0, 0, []) else none) else (bif Nat.beq pc 9 then some (.iconst 3, 0, 0, 3, []) else bif Nat.beq pc 10 then some (.bipush 7, 0, 0, 7, []) else none)) else (bif Nat.ble pc 13 then (bif Nat.beq pc 12 then some (.iastore, 0, 0, 0, []) else bif Nat.beq pc 13 then some (.aload_n 1, 1, 0, 0, []) else none) else (bif Nat.beq pc 14 then some (.iconst 0, 0, 0, 0, []) else bif Nat.beq pc 15 then some (.aaload, 27, 0, 0, []) else none)))) else (bif Nat.ble pc 22 then (bif Nat.ble pc 18 then (bif Nat.beq pc 16 then some (.iconst 4, 0, 0, 4, []) else bif Nat.beq pc 17 then some (.iconst 1, 0, 0, 1, []) else bif Nat.beq pc 18 then some (.iastore, 0, 0, 0, []) else none) else (bif Nat.ble pc 20 then (bif Nat.beq pc 19 then some (.aload_n 1, 1, 0, 0, []) else bif Nat.beq pc 20 then some (.iconst 1, 0, 0, 1, []) else none) else (bif Nat.beq pc 21 then some (.aaload, 27, 0, 0, []) else bif Nat.beq pc 22 then some (.iconst 0, 0, 0, 0, []) else none))) else (bif Nat.ble pc 26 then (bif Nat.ble pc 24 then (bif Nat.beq pc 23 then some (.iconst 1, 0, 0, 1, []) else bif Nat.beq pc 24 then some (.iastore, 0, 0, 0, []) else none) else (bif Nat.beq pc 25 then some (.aload_n 1, 1, 0, 0, []) else bif Nat.beq pc 26 then some (.iconst 1, 0, 0, 1, []) else none)) else (bif Nat.ble pc 28 then (bif Nat.beq pc 27 then some (.aaload, 27, 0, 0, []) else bif Nat.beq pc 28 then some (.iconst 3, 0, 0, 3, []) else none) else (bif Nat.beq pc 29 then some (.iconst 5, 0, 0, 5, []) else bif Nat.beq pc 30 then some (.iastore, 0, 0, 0, []) else none))))) else (bif Nat.ble pc 50 then (bif Nat.ble pc 37 then (bif Nat.ble pc 33 then (bif Nat.beq pc 31 then some (.aload_n 1, 1, 0, 0, []) else bif Nat.beq pc 32 then some (.iconst 1, 0, 0, 1, []) else bif Nat.beq pc 33 then some (.aaload, 27, 0, 0, []) else none) else (bif Nat.ble pc 35 then (bif Nat.beq pc 34 then some (.iconst 4, 0, 0, 4, []) else bif Nat.beq pc 35 then some (.iconst 1, 0, 0, 1, []) else none) else (bif Nat.beq pc 36 then some (.iastore, 0, 0, 0, []) else bif Nat.beq pc 37 then some (.aload_n 0, 0, 0, 0, []) else none))) else (bif Nat.ble pc 42 then (bif Nat.ble pc 40 then (bif Nat.beq pc 38 then some (.ldc 89, 1, 122, 0, []) else bif Nat.beq pc 40 then some (.iconst 0, 0, 0, 0, []) else none) else (bif Nat.beq pc 41 then some (.iconst 0, 0, 0, 0, []) else bif Nat.beq pc 42 then some (.iconst 0, 0, 0, 0, []) else none)) else (bif Nat.ble pc 44 then (bif Nat.beq pc 43 then some (.iconst 1, 0, 0, 1, []) else bif Nat.beq pc 44 then some (.invokestatic 91, 194, 6, 0, []) else none) else (bif Nat.beq pc 47 then some (.ifCond .eq 28, 75, 0, 0, []) else bif Nat.beq pc 50 then some (.aload_n 0, 0, 0, 0, []) else none)))) else (bif Nat.ble pc 60 then (bif Nat.ble pc 54 then (bif Nat.beq pc 51 then some (.ldc 95, 1, 124, 0, []) else bif Nat.beq pc 53 then some (.iconst 1, 0, 0, 1, []) else bif Nat.beq pc 54 then some (.iconst (-1), 0, 0, -1, []) else none) else (bif Nat.ble pc 56 then (bif Nat.beq pc 55 then some (.iconst 0, 0, 0, 0, []) else bif Nat.beq pc 56 then some (.iconst 1, 0, 0, 1, []) else none) else (bif Nat.beq pc 57 then some (.invokestatic 91, 194, 6, 0, []) else bif Nat.beq pc 60 then some (.ifCond .eq 15, 75, 0, 0, []) else none))) else (bif Nat.ble pc 68 then (bif Nat.ble pc 64 then (bif Nat.beq pc 63 then some (.aload_n 0, 0, 0, 0, []) else bif Nat.beq pc 64 then some (.aload_n 1, 1, 0, 0, []) else none) else (bif Nat.beq pc 65 then some (.invokestatic 97, 201, 2, 0, []) else bif Nat.beq pc 68 then some (.ifCond .eq 7, 75, 0, 0, []) else none)) else (bif Nat.ble pc 72 then (bif Nat.beq pc 71 then some (.iconst 1, 0, 0, 1, []) else bif Nat.beq pc 72 then some (.goto 4, 76, 0, 0, []) else none) else (bif Nat.beq pc 75 then some (.iconst 0, 0, 0, 0, []) else bif Nat.beq pc 76 then some (.ireturn, 0, 0, 0, []) else none)))))
def p203 (pc : Nat) : Option PE := bif Nat.ble pc 146 then (bif Nat.ble pc 70 then (bif Nat.ble pc 32 then (bif Nat.ble pc 16 then (bif Nat.ble pc 6 then (bif Nat.ble pc 3 then (bif Nat.beq pc 0 then some (.invokestatic 101, 195, 0, 0, []) else bif Nat.beq pc 3 then some (.astore_n 1, 1, 0, 0, []) else none) else (bif Nat.beq pc 4 then some (.iconst 1, 0, 0, 1, []) else bif Nat.beq pc 5 then some (.istore_n 2, 2, 0, 0, []) else bif Nat.beq pc 6 then some (.iload_n 2, 2, 0, 0, []) else none)) else (bif Nat.ble pc 9 then (bif Nat.beq pc 7 then some (.aload_n 0, 0, 0, 0, []) else bif Nat.beq pc 8 then some (.iconst 0, 0, 0, 0, []) else bif Nat.beq pc 9 then some (.invokevirtual 24, 162, 1, 0, []) else none) else (bif Nat.beq pc 12 then some (.if_icmp .gt 261, 273, 0, 0, []) else bif Nat.beq pc 15 then some (.aload_n 0, 0, 0, 0, []) else bif Nat.beq pc 16 then some (.iload_n 2, 2, 0, 0, []) else none))) else (bif Nat.ble pc 23 then (bif Nat.ble pc 18 then (bif Nat.beq pc 17 then some (.iconst 0, 0, 0, 0, []) else bif Nat.beq pc 18 then some (.invokevirtual 105, 99, 2, 0, []) else none) else (bif Nat.beq pc 21 then some (.istore_n 3, 3, 0, 0, []) else bif Nat.beq pc 22 then some (.aload_n 0, 0, 0, 0, []) else bif Nat.beq pc 23 then some (.iload_n 2, 2, 0, 0, []) else none)) else (bif Nat.ble pc 28 then (bif Nat.beq pc 24 then some (.iconst 2, 0, 0, 2, []) else bif Nat.beq pc 25 then some (.invokevirtual 105, 99, 2, 0, []) else bif Nat.beq pc 28 then some (.istore 4, 4, 0, 0, []) else none) else (bif Nat.beq pc 30 then some (.aload_n 0, 0, 0, 0, []) else bif Nat.beq pc 31 then some (.iload_n 2, 2, 0, 0, []) else bif Nat.beq pc 32 then some (.bipush 6, 0, 0, 6, []) else none)))) else (bif Nat.ble pc 50 then (bif Nat.ble pc 44 then (bif Nat.ble pc 37 then (bif Nat.beq pc 34 then some (.invokevirtual 105, 99, 2, 0, []) else bif Nat.beq pc 37 then some (.istore 5, 5, 0, 0, []) else none) else (bif Nat.beq pc 39 then some (.iload 4, 4, 0, 0, []) else bif Nat.beq pc 41 then some (.ifCond .ne 9, 50, 0, 0, []) else bif Nat.beq pc 44 then some (.aload_n 1, 1, 0, 0, []) else none)) else (bif Nat.ble pc 47 then (bif Nat.beq pc 45 then some (.iload_n 3, 3, 0, 0, []) else bif Nat.beq pc 46 then some (.aaload, 27, 0, 0, []) else bif Nat.beq pc 47 then some (.iconst 0, 0, 0, 0, []) else none) else (bif Nat.beq pc 48 then some (.iconst 1, 0, 0, 1, []) else bif Nat.beq pc 49 then some (.iastore, 0, 0, 0, []) else bif Nat.beq pc 50 then some (.iload 4, 4, 0, 0, []) else none))) else (bif Nat.ble pc 62 then (bif Nat.ble pc 57 then (bif Nat.beq pc 52 then some (.ifCond .eq 9, 61, 0, 0, []) else bif Nat.beq pc 55 then some (.iload 4, 4, 0, 0, []) else bif Nat.beq pc 57 then some (.iconst 5, 0, 0, 5, []) else none) else (bif Nat.beq pc 58 then some (.if_icmp .ne 10, 68, 0, 0, []) else bif Nat.beq pc 61 then some (.aload_n 1, 1, 0, 0, []) else bif Nat.beq pc 62 then some (.iload_n 3, 3, 0, 0, []) else none)) else (bif Nat.ble pc 65 then (bif Nat.beq pc 63 then some (.aaload, 27, 0, 0, []) else bif Nat.beq pc 64 then some (.iconst 3, 0, 0, 3, []) else bif Nat.beq pc 65 then some (.iload 5, 5, 0, 0, []) else none) else (bif Nat.beq pc 67 then some (.iastore, 0, 0, 0, []) else bif Nat.beq pc 68 then some (.iload 4, 4, 0, 0, []) else bif Nat.beq pc 70 then some (.bipush 8, 0, 0, 8, []) else none))))) else (bif Nat.ble pc 107 then (bif Nat.ble pc 84 then (bif Nat.ble pc 78 then (bif Nat.ble pc 75 then (bif Nat.beq pc 72 then some (.if_icmp .ne 9, 81, 0, 0, []) else bif Nat.beq pc 75 then some (.aload_n 1, 1, 0, 0, []) else none) else (bif Nat.beq pc 76 then some (.iload_n 3, 3, 0, 0, []) else bif Nat.beq pc 77 then some (.aaload, 27, 0, 0, []) else bif Nat.beq pc 78 then some (.iconst 0, 0, 0, 0, []) else none)) else (bif Nat.ble pc 81 then (bif Nat.beq pc 79 then some (.iconst 2, 0, 0, 2, []) else bif Nat.beq pc 80 then some (.iastore, 0, 0, 0, []) else bif Nat.beq pc 81 then some (.aload_n 1, 1, 0, 0, []) else none) else (bif Nat.beq pc 82 then some (.iload_n 3, 3, 0, 0, []) else bif Nat.beq pc 83 then some (.aaload, 27, 0, 0, []) else bif Nat.beq pc 84 then some (.iconst 1, 0, 0, 1, []) else none))) else (bif Nat.ble pc 93 then (bif Nat.ble pc 87 then (bif Nat.beq pc 85 then some (.dup2, 0, 0, 0, []) else bif Nat.beq pc 86 then some (.iaload, 20, 0, 0, []) else bif Nat.beq pc 87 then some (.iload 4, 4, 0, 0, []) else none) else (bif Nat.beq pc 89 then some (.iconst 1, 0, 0, 1, []) else bif Nat.beq pc 90 then some (.if_icmp .eq 10, 100, 0, 0, []) else bif Nat.beq pc 93 then some (.iload 4, 4, 0, 0, []) else none)) else (bif Nat.ble pc 100 then (bif Nat.beq pc 95 then some (.bipush 7, 0, 0, 7, []) else bif Nat.beq pc 97 then some (.if_icmp .ne 8, 105, 0, 0, []) else bif Nat.beq pc 100 then some (.iload 5, 5, 0, 0, []) else none) else (bif Nat.beq pc 102 then some (.goto 23, 125, 0, 0, []) else bif Nat.beq pc 105 then some (.iload 4, 4, 0, 0, []) else bif Nat.beq pc 107 then some (.iconst 2, 0, 0, 2, []) else none)))) else (bif Nat.ble pc 127 then (bif Nat.ble pc 118 then (bif Nat.ble pc 111 then (bif Nat.beq pc 108 then some (.if_icmp .eq 10, 118, 0, 0, []) else bif Nat.beq pc 111 then some (.iload 4, 4, 0, 0, []) else none) else (bif Nat.beq pc 113 then some (.bipush 6, 0, 0, 6, []) else bif Nat.beq pc 115 then some (.if_icmp .ne 9, 124, 0, 0, []) else bif Nat.beq pc 118 then some (.iload 5, 5, 0, 0, []) else none)) else (bif Nat.ble pc 124 then (bif Nat.beq pc 120 then some (.ineg, 0, 0, 0, []) else bif Nat.beq pc 121 then some (.goto 4, 125, 0, 0, []) else bif Nat.beq pc 124 then some (.iconst 0, 0, 0, 0, []) else none) else (bif Nat.beq pc 125 then some (.iadd, 0, 0, 0, []) else bif Nat.beq pc 126 then some (.iastore, 0, 0, 0, []) else bif Nat.beq pc 127 then some (.aload_n 1, 1, 0, 0, []) else none))) else (bif Nat.ble pc 133 then (bif Nat.ble pc 130 then (bif Nat.beq pc 128 then some (.iload_n 3, 3, 0, 0, []) else bif Nat.beq pc 129 then some (.aaload, 27, 0, 0, []) else bif Nat.beq pc 130 then some (.iconst 2, 0, 0, 2, []) else none) else (bif Nat.beq pc 131 then some (.dup2, 0, 0, 0, []) else bif Nat.beq pc 132 then some (.iaload, 20, 0, 0, []) else bif Nat.beq pc 133 then some (.iload 4, 4, 0, 0, []) else none)) else (bif Nat.ble pc 139 then (bif Nat.beq pc 135 then some (.iconst 3, 0, 0, 3, []) else bif Nat.beq pc 136 then some (.if_icmp .ne 8, 144, 0, 0, []) else bif Nat.beq pc 139 then some (.iload 5, 5, 0, 0, []) else none) else (bif Nat.beq pc 141 then some (.goto 16, 157, 0, 0, []) else bif Nat.beq pc 144 then some (.iload 4, 4, 0, 0, []) else bif Nat.beq pc 146 then some (.iconst 4, 0, 0, 4, []) else none)))))) else (bif Nat.ble pc 206 then (bif Nat.ble pc 175 then (bif Nat.ble pc 162 then (bif Nat.ble pc 156 then (bif Nat.ble pc 150 then (bif Nat.beq pc 147 then some (.if_icmp .ne 9, 156, 0, 0, []) else bif Nat.beq pc 150 then some (.iload 5, 5, 0, 0, []) else none) else (bif Nat.beq pc 152 then some (.ineg, 0, 0, 0, []) else bif Nat.beq pc 153 then some (.goto 4, 157, 0, 0, []) else bif Nat.beq pc 156 then some (.iconst 0, 0, 0, 0, []) else none)) else (bif Nat.ble pc 159 then (bif Nat.beq pc 157 then some (.iadd, 0, 0, 0, []) else bif Nat.beq pc 158 then some (.iastore, 0, 0, 0, []) else bif Nat.beq pc 159 then some (.aload_n 1, 1, 0, 0, []) else none) else (bif Nat.beq pc 160 then some (.iload_n 3, 3, 0, 0, []) else bif Nat.beq pc 161 then some (.aaload, 27, 0, 0, []) else bif Nat.beq pc 162 then some (.iconst 4, 0, 0, 4, []) else none))) else (bif Nat.ble pc 167 then (bif Nat.ble pc 164 then (bif Nat.beq pc 163 then some (.dup2, 0, 0, 0, []) else bif Nat.beq pc 164 then some (.iaload, 20, 0, 0, []) else none) else (bif Nat.beq pc 165 then some (.iconst 1, 0, 0, 1, []) else bif Nat.beq pc 166 then some (.iadd, 0, 0, 0, []) else bif Nat.beq pc 167 then some (.iastore, 0, 0, 0, []) else none)) else (bif Nat.ble pc 170 then (bif Nat.beq pc 168 then some (.aload_n 0, 0, 0, 0, []) else bif Nat.beq pc 169 then some (.iload_n 2, 2, 0, 0, []) else bif Nat.beq pc 170 then some (.iconst 1, 0, 0, 1, []) else none) else (bif Nat.beq pc 171 then some (.invokevirtual 105, 99, 2, 0, []) else bif Nat.beq pc 174 then some (.aload_n 1, 1, 0, 0, []) else bif Nat.beq pc 175 then some (.iload_n 3, 3, 0, 0, []) else none)))) else (bif Nat.ble pc 188 then (bif Nat.ble pc 182 then (bif Nat.ble pc 177 then (bif Nat.beq pc 176 then some (.aaload, 27, 0, 0, []) else bif Nat.beq pc 177 then some (.iconst 4, 0, 0, 4, []) else none) else (bif Nat.beq pc 178 then some (.iaload, 20, 0, 0, []) else bif Nat.beq pc 179 then some (.if_icmp .ne 48, 227, 0, 0, []) else bif Nat.beq pc 182 then some (.aload_n 0, 0, 0, 0, []) else none)) else (bif Nat.ble pc 185 then (bif Nat.beq pc 183 then some (.iload_n 3, 3, 0, 0, []) else bif Nat.beq pc 184 then some (.aload_n 1, 1, 0, 0, []) else bif Nat.beq pc 185 then some (.iload_n 3, 3, 0, 0, []) else none) else (bif Nat.beq pc 186 then some (.aaload, 27, 0, 0, []) else bif Nat.beq pc 187 then some (.iconst 4, 0, 0, 4, []) else bif Nat.beq pc 188 then some (.iaload, 20, 0, 0, []) else none))) else (bif Nat.ble pc 198 then (bif Nat.ble pc 193 then (bif Nat.beq pc 189 then some (.invokevirtual 108, 106, 2, 0, []) else bif Nat.beq pc 192 then some (.iload_n 2, 2, 0, 0, []) else bif Nat.beq pc 193 then some (.if_icmp .ne 34, 227, 0, 0, []) else none) else (bif Nat.beq pc 196 then some (.aload_n 0, 0, 0, 0, []) else bif Nat.beq pc 197 then some (.iload_n 3, 3, 0, 0, []) else bif Nat.beq pc 198 then some (.aload_n 1, 1, 0, 0, []) else none)) else (bif Nat.ble pc 201 then (bif Nat.beq pc 199 then some (.iload_n 3, 3, 0, 0, []) else bif Nat.beq pc 200 then some (.aaload, 27, 0, 0, []) else bif Nat.beq pc 201 then some (.iconst 4, 0, 0, 4, []) else none) else (bif Nat.beq pc 202 then some (.iaload, 20, 0, 0, []) else bif Nat.beq pc 203 then some (.invokevirtual 111, 91, 2, 0, []) else bif Nat.beq pc 206 then some (.ifCond .lt 21, 227, 0, 0, []) else none))))) else (bif Nat.ble pc 239 then (bif Nat.ble pc 221 then (bif Nat.ble pc 213 then (bif Nat.ble pc 210 then (bif Nat.beq pc 209 then some (.aload_n 0, 0, 0, 0, []) else bif Nat.beq pc 210 then some (.iload_n 3, 3, 0, 0, []) else none) else (bif Nat.beq pc 211 then some (.aload_n 1, 1, 0, 0, []) else bif Nat.beq pc 212 then some (.iload_n 3, 3, 0, 0, []) else bif Nat.beq pc 213 then some (.aaload, 27, 0, 0, []) else none)) else (bif Nat.ble pc 216 then (bif Nat.beq pc 214 then some (.iconst 4, 0, 0, 4, []) else bif Nat.beq pc 215 then some (.iaload, 20, 0, 0, []) else bif Nat.beq pc 216 then some (.invokevirtual 111, 91, 2, 0, []) else none) else (bif Nat.beq pc 219 then some (.aload_n 1, 1, 0, 0, []) else bif Nat.beq pc 220 then some (.iload_n 3, 3, 0, 0, []) else bif Nat.beq pc 221 then some (.aaload, 27, 0, 0, []) else none))) else (bif Nat.ble pc 229 then (bif Nat.ble pc 224 then (bif Nat.beq pc 222 then some (.iconst 4, 0, 0, 4, []) else bif Nat.beq pc 223 then some (.iaload, 20, 0, 0, []) else bif Nat.beq pc 224 then some (.if_icmp .le 5, 229, 0, 0, []) else none) else (bif Nat.beq pc 227 then some (.iconst 0, 0, 0, 0, []) else bif Nat.beq pc 228 then some (.ireturn, 0, 0, 0, []) else bif Nat.beq pc 229 then some (.iconst 0, 0, 0, 0, []) else none)) else (bif Nat.ble pc 234 then (bif Nat.beq pc 230 then some (.istore 6, 6, 0, 0, []) else bif Nat.beq pc 232 then some (.iload 6, 6, 0, 0, []) else bif Nat.beq pc 234 then some (.iconst 4, 0, 0, 4, []) else none) else (bif Nat.beq pc 235 then some (.if_icmp .ge 32, 267, 0, 0, []) else bif Nat.beq pc 238 then some (.aload_n 0, 0, 0, 0, []) else bif Nat.beq pc 239 then some (.iload_n 3, 3, 0, 0, []) else none)))) else (bif Nat.ble pc 253 then (bif Nat.ble pc 244 then (bif Nat.ble pc 241 then (bif Nat.beq pc 240 then some (.aload_n 1, 1, 0, 0, []) else bif Nat.beq pc 241 then some (.iload_n 3, 3, 0, 0, []) else none) else (bif Nat.beq pc 242 then some (.aaload, 27, 0, 0, []) else bif Nat.beq pc 243 then some (.iconst 4, 0, 0, 4, []) else bif Nat.beq pc 244 then some (.iaload, 20, 0, 0, []) else none)) else (bif Nat.ble pc 250 then (bif Nat.beq pc 245 then some (.iload 6, 6, 0, 0, []) else bif Nat.beq pc 247 then some (.invokevirtual 114, 88, 3, 0, []) else bif Nat.beq pc 250 then some (.aload_n 1, 1, 0, 0, []) else none) else (bif Nat.beq pc 251 then some (.iload_n 3, 3, 0, 0, []) else bif Nat.beq pc 252 then some (.aaload, 27, 0, 0, []) else bif Nat.beq pc 253 then some (.iload 6, 6, 0, 0, []) else none))) else (bif Nat.ble pc 264 then (bif Nat.ble pc 259 then (bif Nat.beq pc 255 then some (.iaload, 20, 0, 0, []) else bif Nat.beq pc 256 then some (.if_icmp .eq 5, 261, 0, 0, []) else bif Nat.beq pc 259 then some (.iconst 0, 0, 0, 0, []) else none) else (bif Nat.beq pc 260 then some (.ireturn, 0, 0, 0, []) else bif Nat.beq pc 261 then some (.iinc 6 1, 6, 0, 1, []) else bif Nat.beq pc 264 then some (.goto (-32), 232, 0, 0, []) else none)) else (bif Nat.ble pc 273 then (bif Nat.beq pc 267 then some (.iinc 2 1, 2, 0, 1, []) else bif Nat.beq pc 270 then some (.goto (-264), 6, 0, 0, []) else bif Nat.beq pc 273 then some (.aload_n 0, 0, 0, 0, []) else none) else (bif Nat.beq pc 274 then some (.aload_n 1, 1, 0, 0, []) else bif Nat.beq pc 275 then some (.invokestatic 97, 201, 2, 0, []) else bif Nat.beq pc 278 then some (.ireturn, 0, 0, 0, []) else none))))))
def p204 (pc : Nat) : Option PE := none
def p205 (pc : Nat) : Option PE := none
def p206 (pc : Nat) : Option PE := none
def p207 (pc : Nat) : Option PE := none
def p208 (pc : Nat) : Option PE := none
def p209 (pc : Nat) : Option PE := none
def p210 (pc : Nat) : Option PE := none
def p211 (pc : Nat) : Option PE := none
def p212 (pc : Nat) : Option PE := none
def p213 (pc : Nat) : Option PE := none
def p214 (pc : Nat) : Option PE := none
def p215 (pc : Nat) : Option PE := none
def p216 (pc : Nat) : Option PE := none
def p217 (pc : Nat) : Option PE := none
def p218 (pc : Nat) : Option PE := none
def p219 (pc : Nat) : Option PE := none
def p220 (pc : Nat) : Option PE := none
def p221 (pc : Nat) : Option PE := none
def p222 (pc : Nat) : Option PE := none
def p223 (pc : Nat) : Option PE := none
def p224 (pc : Nat) : Option PE := none
def p225 (pc : Nat) : Option PE := none
def p226 (pc : Nat) : Option PE := none
def p227 (pc : Nat) : Option PE := none
def p228 (pc : Nat) : Option PE := none
def p229 (pc : Nat) : Option PE := none
def p230 (pc : Nat) : Option PE := none
def p231 (pc : Nat) : Option PE := none
def p232 (pc : Nat) : Option PE := none
def p233 (pc : Nat) : Option PE := none
def p234 (pc : Nat) : Option PE := none
def p235 (pc : Nat) : Option PE := none
def p236 (pc : Nat) : Option PE := none
def p237 (pc : Nat) : Option PE := none
def p238 (pc : Nat) : Option PE := none
def p239 (pc : Nat) : Option PE := none
def p240 (pc : Nat) : Option PE := none
def p241 (pc : Nat) : Option PE := none
def p242 (pc : Nat) : Option PE := none
def p243 (pc : Nat) : Option PE := none
def p244 (pc : Nat) : Option PE := none
def p245 (pc : Nat) : Option PE := none
def p246 (pc : Nat) : Option PE := none
def p247 (pc : Nat) : Option PE := none
def p248 (pc : Nat) : Option PE := none
def p249 (pc : Nat) : Option PE := none
def p250 (pc : Nat) : Option PE := none
def p251 (pc : Nat) : Option PE := none
def p252 (pc : Nat) : Option PE := none
def p253 (pc : Nat) : Option PE := none
def p254 (pc : Nat) : Option PE := none
def p255 (pc : Nat) : Option PE := none
def p256 (pc : Nat) : Option PE := none
def p257 (pc : Nat) : Option PE := none
def p258 (pc : Nat) : Option PE := none
def p259 (pc : Nat) : Option PE := none
def p260 (pc : Nat) : Option PE := none
def p261 (pc : Nat) : Option PE := none
def p262 (pc : Nat) : Option PE := none
def p263 (pc : Nat) : Option PE := none
def p264 (pc : Nat) : Option PE := none
def p265 (pc : Nat) : Option PE := none
def p266 (pc : Nat) : Option PE := none
def p267 (pc : Nat) : Option PE := none
def p268 (pc : Nat) : Option PE := bif Nat.ble pc 447 then (bif Nat.ble pc 233 then (bif Nat.ble pc 117 then (bif Nat.ble pc 59 then (bif Nat.ble pc 29 then (bif Nat.ble pc 12 then (bif Nat.ble pc 4 then (bif Nat.beq pc 0 then some (.new 19, 11, 0, 0, []) else bif Nat.beq pc 3 then some (.dup, 0, 0, 0, []) else bif Nat.beq pc 4 then some (.invokespecial 117, 0, 1, 0, []) else none) else (bif Nat.ble pc 8 then (bif Nat.beq pc 7 then some (.astore_n 1, 1, 0, 0, []) else bif Nat.beq pc 8 then some (.aload_n 1, 1, 0, 0, []) else none) else (bif Nat.beq pc 9 then some (.invokestatic 101, 195, 0, 0, []) else bif Nat.beq pc 12 then some (.invokestatic 118, 202, 2, 0, []) else none))) else (bif Nat.ble pc 20 then (bif Nat.ble pc 18 then (bif Nat.beq pc 15 then some (.ifCond .ne 5, 20, 0, 0, []) else bif Nat.beq pc 18 then some (.iconst 0, 0, 0, 0, []) else none) else (bif Nat.beq pc 19 then some (.ireturn, 0, 0, 0, []) else bif Nat.beq pc 20 then some (.aload_n 1, 1, 0, 0, []) else none)) else (bif Nat.ble pc 23 then (bif Nat.beq pc 21 then some (.ldc 121, 1, 126, 0, []) else bif Nat.beq pc 23 then some (.invokestatic 27, 193, 2, 0, []) else none) else (bif Nat.beq pc 26 then some (.ifCond .eq 48, 74, 0, 0, []) else bif Nat.beq pc 29 then some (.aload_n 1, 1, 0, 0, []) else none)))) else (bif Nat.ble pc 44 then (bif Nat.ble pc 35 then (bif Nat.ble pc 31 then (bif Nat.beq pc 30 then some (.iconst 0, 0, 0, 0, []) else bif Nat.beq pc 31 then some (.invokevirtual 123, 109, 1, 0, []) else none) else (bif Nat.beq pc 34 then some (.iconst 1, 0, 0, 1, []) else bif Nat.beq pc 35 then some (.if_icmp .ne 39, 74, 0, 0, []) else none)) else (bif Nat.ble pc 39 then (bif Nat.beq pc 38 then some (.aload_n 1, 1, 0, 0, []) else bif Nat.beq pc 39 then some (.ldc 126, 1, 128, 0, []) else none) else (bif Nat.beq pc 41 then some (.invokestatic 27, 193, 2, 0, []) else bif Nat.beq pc 44 then some (.ifCond .eq 30, 74, 0, 0, []) else none))) else (bif Nat.ble pc 52 then (bif Nat.ble pc 48 then (bif Nat.beq pc 47 then some (.aload_n 1, 1, 0, 0, []) else bif Nat.beq pc 48 then some (.iconst 1, 0, 0, 1, []) else none) else (bif Nat.beq pc 49 then some (.invokevirtual 123, 109, 1, 0, []) else bif Nat.beq pc 52 then some (.iconst 1, 0, 0, 1, []) else none)) else (bif Nat.ble pc 56 then (bif Nat.beq pc 53 then some (.if_icmp .ne 21, 74, 0, 0, []) else bif Nat.beq pc 56 then some (.aload_n 1, 1, 0, 0, []) else none) else (bif Nat.beq pc 57 then some (.ldc 128, 1, 130, 0, []) else bif Nat.beq pc 59 then some (.invokestatic 27, 193, 2, 0, []) else none))))) else (bif Nat.ble pc 86 then (bif Nat.ble pc 75 then (bif Nat.ble pc 67 then (bif Nat.ble pc 65 then (bif Nat.beq pc 62 then some (.ifCond .eq 12, 74, 0, 0, []) else bif Nat.beq pc 65 then some (.aload_n 1, 1, 0, 0, []) else none) else (bif Nat.beq pc 66 then some (.iconst 0, 0, 0, 0, []) else bif Nat.beq pc 67 then some (.invokevirtual 130, 132, 1, 0, []) else none)) else (bif Nat.ble pc 71 then (bif Nat.beq pc 70 then some (.iconst 1, 0, 0, 1, []) else bif Nat.beq pc 71 then some (.if_icmp .eq 5, 76, 0, 0, []) else none) else (bif Nat.beq pc 74 then some (.iconst 0, 0, 0, 0, []) else bif Nat.beq pc 75 then some (.ireturn, 0, 0, 0, []) else none))) else (bif Nat.ble pc 81 then (bif Nat.ble pc 78 then (bif Nat.beq pc 76 then some (.bipush 6, 0, 0, 6, []) else bif Nat.beq pc 78 then some (.newarray .int, 0, 0, 0, []) else none) else (bif Nat.beq pc 80 then some (.astore_n 2, 2, 0, 0, []) else bif Nat.beq pc 81 then some (.iconst 0, 0, 0, 0, []) else none)) else (bif Nat.ble pc 83 then (bif Nat.beq pc 82 then some (.istore_n 3, 3, 0, 0, []) else bif Nat.beq pc 83 then some (.iconst 0, 0, 0, 0, []) else none) else (bif Nat.beq pc 84 then some (.istore 4, 4, 0, 0, []) else bif Nat.beq pc 86 then some (.iload 4, 4, 0, 0, []) else none)))) else (bif Nat.ble pc 102 then (bif Nat.ble pc 94 then (bif Nat.ble pc 90 then (bif Nat.beq pc 88 then some (.bipush 30, 0, 0, 30, []) else bif Nat.beq pc 90 then some (.if_icmp .ge 531, 621, 0, 0, []) else none) else (bif Nat.beq pc 93 then some (.aload_n 0, 0, 0, 0, []) else bif Nat.beq pc 94 then some (.iload 4, 4, 0, 0, []) else none)) else (bif Nat.ble pc 99 then (bif Nat.beq pc 96 then some (.invokestatic 133, 192, 2, 0, []) else bif Nat.beq pc 99 then some (.istore 5, 5, 0, 0, []) else none) else (bif Nat.beq pc 101 then some (.aload_n 0, 0, 0, 0, []) else bif Nat.beq pc 102 then some (.bipush 30, 0, 0, 30, []) else none))) else (bif Nat.ble pc 110 then (bif Nat.ble pc 106 then (bif Nat.beq pc 104 then some (.iload 4, 4, 0, 0, []) else bif Nat.beq pc 106 then some (.iadd, 0, 0, 0, []) else none) else (bif Nat.beq pc 107 then some (.invokestatic 133, 192, 2, 0, []) else bif Nat.beq pc 110 then some (.istore 6, 6, 0, 0, []) else none)) else (bif Nat.ble pc 113 then (bif Nat.beq pc 112 then some (.aload_n 1, 1, 0, 0, []) else bif Nat.beq pc 113 then some (.iconst 0, 0, 0, 0, []) else none) else (bif Nat.beq pc 114 then some (.invokevirtual 24, 162, 1, 0, []) else bif Nat.beq pc 117 then some (.istore 7, 7, 0, 0, []) else none)))))) else (bif Nat.ble pc 172 then (bif Nat.ble pc 143 then (bif Nat.ble pc 130 then (bif Nat.ble pc 123 then (bif Nat.beq pc 119 then some (.iload 6, 6, 0, 0, []) else bif Nat.beq pc 121 then some (.bipush 8, 0, 0, 8, []) else bif Nat.beq pc 123 then some (.irem, 0, 0, 0, []) else none) else (bif Nat.ble pc 125 then (bif Nat.beq pc 124 then some (.iconst 4, 0, 0, 4, []) else bif Nat.beq pc 125 then some (.if_icmp .ge 146, 271, 0, 0, []) else none) else (bif Nat.beq pc 128 then some (.iload 6, 6, 0, 0, []) else bif Nat.beq pc 130 then some (.iconst 3, 0, 0, 3, []) else none))) else (bif Nat.ble pc 135 then (bif Nat.ble pc 132 then (bif Nat.beq pc 131 then some (.ishr, 0, 0, 0, []) else bif Nat.beq pc 132 then some (.bipush 6, 0, 0, 6, []) else none) else (bif Nat.beq pc 134 then some (.irem, 0, 0, 0, []) else bif Nat.beq pc 135 then some (.istore 8, 8, 0, 0, []) else none)) else (bif Nat.ble pc 138 then (bif Nat.beq pc 137 then some (.aload_n 1, 1, 0, 0, []) else bif Nat.beq pc 138 then some (.iload 5, 5, 0, 0, []) else none) else (bif Nat.beq pc 140 then some (.invokestatic 137, 200, 1, 0, []) else bif Nat.beq pc 143 then some (.invokestatic 27, 193, 2, 0, []) else none)))) else (bif Nat.ble pc 159 then (bif Nat.ble pc 151 then (bif Nat.ble pc 149 then (bif Nat.beq pc 146 then some (.ifCond .ne 5, 151, 0, 0, []) else bif Nat.beq pc 149 then some (.iconst 0, 0, 0, 0, []) else none) else (bif Nat.beq pc 150 then some (.ireturn, 0, 0, 0, []) else bif Nat.beq pc 151 then some (.aload_n 1, 1, 0, 0, []) else none)) else (bif Nat.ble pc 154 then (bif Nat.beq pc 152 then some (.iload 5, 5, 0, 0, []) else bif Nat.beq pc 154 then some (.invokestatic 82, 196, 1, 0, []) else none) else (bif Nat.beq pc 157 then some (.iload 6, 6, 0, 0, []) else bif Nat.beq pc 159 then some (.bipush 6, 0, 0, 6, []) else none))) else (bif Nat.ble pc 164 then (bif Nat.ble pc 162 then (bif Nat.beq pc 161 then some (.ishr, 0, 0, 0, []) else bif Nat.beq pc 162 then some (.iconst 3, 0, 0, 3, []) else none) else (bif Nat.beq pc 163 then some (.iand, 0, 0, 0, []) else bif Nat.beq pc 164 then some (.ifCond .ne 13, 177, 0, 0, []) else none)) else (bif Nat.ble pc 169 then (bif Nat.beq pc 167 then some (.iload 6, 6, 0, 0, []) else bif Nat.beq pc 169 then some (.bipush 8, 0, 0, 8, []) else none) else (bif Nat.beq pc 171 then some (.ishr, 0, 0, 0, []) else bif Nat.beq pc 172 then some (.iconst 5, 0, 0, 5, []) else none))))) else (bif Nat.ble pc 202 then (bif Nat.ble pc 187 then (bif Nat.ble pc 178 then (bif Nat.ble pc 174 then (bif Nat.beq pc 173 then some (.irem, 0, 0, 0, []) else bif Nat.beq pc 174 then some (.goto 4, 178, 0, 0, []) else none) else (bif Nat.beq pc 177 then some (.iconst (-1), 0, 0, -1, []) else bif Nat.beq pc 178 then some (.iload 8, 8, 0, 0, []) else none)) else (bif Nat.ble pc 183 then (bif Nat.beq pc 180 then some (.invokevirtual 33, 14, 3, 0, []) else bif Nat.beq pc 183 then some (.istore 9, 9, 0, 0, []) else none) else (bif Nat.beq pc 185 then some (.iload 8, 8, 0, 0, []) else bif Nat.beq pc 187 then some (.ifCond .le 31, 218, 0, 0, []) else none))) else (bif Nat.ble pc 194 then (bif Nat.ble pc 191 then (bif Nat.beq pc 190 then some (.aload_n 2, 2, 0, 0, []) else bif Nat.beq pc 191 then some (.iload 8, 8, 0, 0, []) else none) else (bif Nat.beq pc 193 then some (.iaload, 20, 0, 0, []) else bif Nat.beq pc 194 then some (.ifCond .le 24, 218, 0, 0, []) else none)) else (bif Nat.ble pc 199 then (bif Nat.beq pc 197 then some (.iload 9, 9, 0, 0, []) else bif Nat.beq pc 199 then some (.aload_n 2, 2, 0, 0, []) else none) else (bif Nat.beq pc 200 then some (.iload 8, 8, 0, 0, []) else bif Nat.beq pc 202 then some (.iaload, 20, 0, 0, []) else none)))) else (bif Nat.ble pc 217 then (bif Nat.ble pc 208 then (bif Nat.ble pc 206 then (bif Nat.beq pc 203 then some (.if_icmp .ne 13, 216, 0, 0, []) else bif Nat.beq pc 206 then some (.aload_n 1, 1, 0, 0, []) else none) else (bif Nat.beq pc 207 then some (.iconst 0, 0, 0, 0, []) else bif Nat.beq pc 208 then some (.invokevirtual 24, 162, 1, 0, []) else none)) else (bif Nat.ble pc 213 then (bif Nat.beq pc 211 then some (.iload 7, 7, 0, 0, []) else bif Nat.beq pc 213 then some (.if_icmp .eq 5, 218, 0, 0, []) else none) else (bif Nat.beq pc 216 then some (.iconst 0, 0, 0, 0, []) else bif Nat.beq pc 217 then some (.ireturn, 0, 0, 0, []) else none))) else (bif Nat.ble pc 225 then (bif Nat.ble pc 220 then (bif Nat.beq pc 218 then some (.iload 9, 9, 0, 0, []) else bif Nat.beq pc 220 then some (.ifCond .le 14, 234, 0, 0, []) else none) else (bif Nat.beq pc 223 then some (.iload 8, 8, 0, 0, []) else bif Nat.beq pc 225 then some (.ifCond .le 9, 234, 0, 0, []) else none)) else (bif Nat.ble pc 229 then (bif Nat.beq pc 228 then some (.aload_n 2, 2, 0, 0, []) else bif Nat.beq pc 229 then some (.iload 8, 8, 0, 0, []) else none) else (bif Nat.beq pc 231 then some (.iload 9, 9, 0, 0, []) else bif Nat.beq pc 233 then some (.iastore, 0, 0, 0, []) else none))))))) else (bif Nat.ble pc 335 then (bif Nat.ble pc 287 then (bif Nat.ble pc 262 then (bif Nat.ble pc 246 then (bif Nat.ble pc 239 then (bif Nat.beq pc 234 then some (.iload 9, 9, 0, 0, []) else bif Nat.beq pc 236 then some (.ifCond .gt 13, 249, 0, 0, []) else bif Nat.beq pc 239 then some (.aload_n 1, 1, 0, 0, []) else none) else (bif Nat.ble pc 241 then (bif Nat.beq pc 240 then some (.iconst 0, 0, 0, 0, []) else bif Nat.beq pc 241 then some (.invokevirtual 24, 162, 1, 0, []) else none) else (bif Nat.beq pc 244 then some (.iload 7, 7, 0, 0, []) else bif Nat.beq pc 246 then some (.if_icmp .ne 20, 266, 0, 0, []) else none))) else (bif Nat.ble pc 255 then (bif Nat.ble pc 251 then (bif Nat.beq pc 249 then some (.iload 9, 9, 0, 0, []) else bif Nat.beq pc 251 then some (.ifCond .eq 15, 266, 0, 0, []) else none) else (bif Nat.beq pc 254 then some (.aload_n 1, 1, 0, 0, []) else bif Nat.beq pc 255 then some (.iconst 0, 0, 0, 0, []) else none)) else (bif Nat.ble pc 259 then (bif Nat.beq pc 256 then some (.invokevirtual 24, 162, 1, 0, []) else bif Nat.beq pc 259 then some (.iload 7, 7, 0, 0, []) else none) else (bif Nat.beq pc 261 then some (.iconst 2, 0, 0, 2, []) else bif Nat.beq pc 262 then some (.iadd, 0, 0, 0, []) else none)))) else (bif Nat.ble pc 276 then (bif Nat.ble pc 268 then (bif Nat.ble pc 266 then (bif Nat.beq pc 263 then some (.if_icmp .le 5, 268, 0, 0, []) else bif Nat.beq pc 266 then some (.iconst 0, 0, 0, 0, []) else none) else (bif Nat.beq pc 267 then some (.ireturn, 0, 0, 0, []) else bif Nat.beq pc 268 then some (.goto 310, 578, 0, 0, []) else none)) else (bif Nat.ble pc 273 then (bif Nat.beq pc 271 then some (.iload 6, 6, 0, 0, []) else bif Nat.beq pc 273 then some (.bipush 8, 0, 0, 8, []) else none) else (bif Nat.beq pc 275 then some (.irem, 0, 0, 0, []) else bif Nat.beq pc 276 then some (.iconst 4, 0, 0, 4, []) else none))) else (bif Nat.ble pc 283 then (bif Nat.ble pc 280 then (bif Nat.beq pc 277 then some (.if_icmp .ne 31, 308, 0, 0, []) else bif Nat.beq pc 280 then some (.aload_n 1, 1, 0, 0, []) else none) else (bif Nat.beq pc 281 then some (.iload 6, 6, 0, 0, []) else bif Nat.beq pc 283 then some (.iconst 3, 0, 0, 3, []) else none)) else (bif Nat.ble pc 285 then (bif Nat.beq pc 284 then some (.ishr, 0, 0, 0, []) else bif Nat.beq pc 285 then some (.iconst 3, 0, 0, 3, []) else none) else (bif Nat.beq pc 286 then some (.irem, 0, 0, 0, []) else bif Nat.beq pc 287 then some (.invokevirtual 141, 95, 1, 0, []) else none))))) else (bif Nat.ble pc 314 then (bif Nat.ble pc 300 then (bif Nat.ble pc 296 then (bif Nat.ble pc 293 then (bif Nat.beq pc 290 then some (.ifCond .lt 16, 306, 0, 0, []) else bif Nat.beq pc 293 then some (.aload_n 1, 1, 0, 0, []) else none) else (bif Nat.beq pc 294 then some (.iload 6, 6, 0, 0, []) else bif Nat.beq pc 296 then some (.iconst 5, 0, 0, 5, []) else none)) else (bif Nat.ble pc 298 then (bif Nat.beq pc 297 then some (.ishr, 0, 0, 0, []) else bif Nat.beq pc 298 then some (.iconst 4, 0, 0, 4, []) else none) else (bif Nat.beq pc 299 then some (.irem, 0, 0, 0, []) else bif Nat.beq pc 300 then some (.invokevirtual 144, 98, 1, 0, []) else none))) else (bif Nat.ble pc 308 then (bif Nat.ble pc 306 then (bif Nat.beq pc 303 then some (.ifCond .ge 275, 578, 0, 0, []) else bif Nat.beq pc 306 then some (.iconst 0, 0, 0, 0, []) else none) else (bif Nat.beq pc 307 then some (.ireturn, 0, 0, 0, []) else bif Nat.beq pc 308 then some (.iload 6, 6, 0, 0, []) else none)) else (bif Nat.ble pc 312 then (bif Nat.beq pc 310 then some (.bipush 8, 0, 0, 8, []) else bif Nat.beq pc 312 then some (.irem, 0, 0, 0, []) else none) else (bif Nat.beq pc 313 then some (.iconst 5, 0, 0, 5, []) else bif Nat.beq pc 314 then some (.if_icmp .ne 52, 366, 0, 0, []) else none)))) else (bif Nat.ble pc 325 then (bif Nat.ble pc 321 then (bif Nat.ble pc 318 then (bif Nat.beq pc 317 then some (.aload_n 1, 1, 0, 0, []) else bif Nat.beq pc 318 then some (.iload 6, 6, 0, 0, []) else none) else (bif Nat.beq pc 320 then some (.iconst 3, 0, 0, 3, []) else bif Nat.beq pc 321 then some (.ishr, 0, 0, 0, []) else none)) else (bif Nat.ble pc 323 then (bif Nat.beq pc 322 then some (.iconst 2, 0, 0, 2, []) else bif Nat.beq pc 323 then some (.irem, 0, 0, 0, []) else none) else (bif Nat.beq pc 324 then some (.iconst 0, 0, 0, 0, []) else bif Nat.beq pc 325 then some (.iconst 1, 0, 0, 1, []) else none))) else (bif Nat.ble pc 330 then (bif Nat.ble pc 328 then (bif Nat.beq pc 326 then some (.iload 6, 6, 0, 0, []) else bif Nat.beq pc 328 then some (.iconst 4, 0, 0, 4, []) else none) else (bif Nat.beq pc 329 then some (.ishr, 0, 0, 0, []) else bif Nat.beq pc 330 then some (.iload 7, 7, 0, 0, []) else none)) else (bif Nat.ble pc 333 then (bif Nat.beq pc 332 then some (.iconst 2, 0, 0, 2, []) else bif Nat.beq pc 333 then some (.iadd, 0, 0, 0, []) else none) else (bif Nat.beq pc 334 then some (.irem, 0, 0, 0, []) else bif Nat.beq pc 335 then some (.iadd, 0, 0, 0, []) else none)))))) else (bif Nat.ble pc 385 then (bif Nat.ble pc 361 then (bif Nat.ble pc 346 then (bif Nat.ble pc 341 then (bif Nat.ble pc 337 then (bif Nat.beq pc 336 then some (.iconst 1, 0, 0, 1, []) else bif Nat.beq pc 337 then some (.iload 6, 6, 0, 0, []) else none) else (bif Nat.beq pc 339 then some (.bipush 9, 0, 0, 9, []) else bif Nat.beq pc 341 then some (.ishr, 0, 0, 0, []) else none)) else (bif Nat.ble pc 344 then (bif Nat.beq pc 342 then some (.bipush 20, 0, 0, 20, []) else bif Nat.beq pc 344 then some (.irem, 0, 0, 0, []) else none) else (bif Nat.beq pc 345 then some (.iadd, 0, 0, 0, []) else bif Nat.beq pc 346 then some (.invokevirtual 147, 117, 4, 0, []) else none))) else (bif Nat.ble pc 356 then (bif Nat.ble pc 351 then (bif Nat.beq pc 349 then some (.istore 8, 8, 0, 0, []) else bif Nat.beq pc 351 then some (.iload 8, 8, 0, 0, []) else none) else (bif Nat.beq pc 353 then some (.ifCond .ge 5, 358, 0, 0, []) else bif Nat.beq pc 356 then some (.iconst 0, 0, 0, 0, []) else none)) else (bif Nat.ble pc 358 then (bif Nat.beq pc 357 then some (.ireturn, 0, 0, 0, []) else bif Nat.beq pc 358 then some (.iload_n 3, 3, 0, 0, []) else none) else (bif Nat.beq pc 359 then some (.iload 8, 8, 0, 0, []) else bif Nat.beq pc 361 then some (.iadd, 0, 0, 0, []) else none)))) else (bif Nat.ble pc 376 then (bif Nat.ble pc 368 then (bif Nat.ble pc 363 then (bif Nat.beq pc 362 then some (.istore_n 3, 3, 0, 0, []) else bif Nat.beq pc 363 then some (.goto 215, 578, 0, 0, []) else none) else (bif Nat.beq pc 366 then some (.iload 6, 6, 0, 0, []) else bif Nat.beq pc 368 then some (.bipush 8, 0, 0, 8, []) else none)) else (bif Nat.ble pc 371 then (bif Nat.beq pc 370 then some (.irem, 0, 0, 0, []) else bif Nat.beq pc 371 then some (.bipush 6, 0, 0, 6, []) else none) else (bif Nat.beq pc 373 then some (.if_icmp .ne 41, 414, 0, 0, []) else bif Nat.beq pc 376 then some (.aload_n 1, 1, 0, 0, []) else none))) else (bif Nat.ble pc 381 then (bif Nat.ble pc 378 then (bif Nat.beq pc 377 then some (.iconst 0, 0, 0, 0, []) else bif Nat.beq pc 378 then some (.iconst 1, 0, 0, 1, []) else none) else (bif Nat.beq pc 379 then some (.iload 6, 6, 0, 0, []) else bif Nat.beq pc 381 then some (.iconst 3, 0, 0, 3, []) else none)) else (bif Nat.ble pc 383 then (bif Nat.beq pc 382 then some (.ishr, 0, 0, 0, []) else bif Nat.beq pc 383 then some (.iconst 4, 0, 0, 4, []) else none) else (bif Nat.beq pc 384 then some (.irem, 0, 0, 0, []) else bif Nat.beq pc 385 then some (.iadd, 0, 0, 0, []) else none))))) else (bif Nat.ble pc 416 then (bif Nat.ble pc 401 then (bif Nat.ble pc 393 then (bif Nat.ble pc 389 then (bif Nat.beq pc 386 then some (.invokevirtual 151, 135, 2, 0, []) else bif Nat.beq pc 389 then some (.istore 8, 8, 0, 0, []) else none) else (bif Nat.beq pc 391 then some (.iload 8, 8, 0, 0, []) else bif Nat.beq pc 393 then some (.ifCond .lt 16, 409, 0, 0, []) else none)) else (bif Nat.ble pc 397 then (bif Nat.beq pc 396 then some (.aload_n 1, 1, 0, 0, []) else bif Nat.beq pc 397 then some (.iconst 0, 0, 0, 0, []) else none) else (bif Nat.beq pc 398 then some (.invokevirtual 24, 162, 1, 0, []) else bif Nat.beq pc 401 then some (.iload 7, 7, 0, 0, []) else none))) else (bif Nat.ble pc 409 then (bif Nat.ble pc 405 then (bif Nat.beq pc 403 then some (.iload 8, 8, 0, 0, []) else bif Nat.beq pc 405 then some (.iadd, 0, 0, 0, []) else none) else (bif Nat.beq pc 406 then some (.if_icmp .le 5, 411, 0, 0, []) else bif Nat.beq pc 409 then some (.iconst 0, 0, 0, 0, []) else none)) else (bif Nat.ble pc 411 then (bif Nat.beq pc 410 then some (.ireturn, 0, 0, 0, []) else bif Nat.beq pc 411 then some (.goto 167, 578, 0, 0, []) else none) else (bif Nat.beq pc 414 then some (.iload 6, 6, 0, 0, []) else bif Nat.beq pc 416 then some (.bipush 8, 0, 0, 8, []) else none)))) else (bif Nat.ble pc 431 then (bif Nat.ble pc 423 then (bif Nat.ble pc 419 then (bif Nat.beq pc 418 then some (.iand, 0, 0, 0, []) else bif Nat.beq pc 419 then some (.ifCond .ne 44, 463, 0, 0, []) else none) else (bif Nat.beq pc 422 then some (.aload_n 1, 1, 0, 0, []) else bif Nat.beq pc 423 then some (.iconst 1, 0, 0, 1, []) else none)) else (bif Nat.ble pc 427 then (bif Nat.beq pc 424 then some (.invokevirtual 24, 162, 1, 0, []) else bif Nat.beq pc 427 then some (.iconst 2, 0, 0, 2, []) else none) else (bif Nat.beq pc 428 then some (.if_icmp .ge 35, 463, 0, 0, []) else bif Nat.beq pc 431 then some (.aload_n 1, 1, 0, 0, []) else none))) else (bif Nat.ble pc 437 then (bif Nat.ble pc 434 then (bif Nat.beq pc 432 then some (.iload 6, 6, 0, 0, []) else bif Nat.beq pc 434 then some (.bipush 16, 0, 0, 16, []) else none) else (bif Nat.beq pc 436 then some (.iand, 0, 0, 0, []) else bif Nat.beq pc 437 then some (.ifCond .ne 8, 445, 0, 0, []) else none)) else (bif Nat.ble pc 442 then (bif Nat.beq pc 440 then some (.ldc 154, 1, 132, 0, []) else bif Nat.beq pc 442 then some (.goto 5, 447, 0, 0, []) else none) else (bif Nat.beq pc 445 then some (.ldc 156, 1, 134, 0, []) else bif Nat.beq pc 447 then some (.invokestatic 27, 193, 2, 0, []) else none)))))))) else (bif Nat.ble pc 693 then (bif Nat.ble pc 582 then (bif Nat.ble pc 520 then (bif Nat.ble pc 479 then (bif Nat.ble pc 462 then (bif Nat.ble pc 454 then (bif Nat.beq pc 450 then some (.ifCond .eq 11, 461, 0, 0, []) else bif Nat.beq pc 453 then some (.aload_n 1, 1, 0, 0, []) else bif Nat.beq pc 454 then some (.invokevirtual 158, 73, 0, 0, []) else none) else (bif Nat.ble pc 458 then (bif Nat.beq pc 457 then some (.iconst 2, 0, 0, 2, []) else bif Nat.beq pc 458 then some (.if_icmp .ge 120, 578, 0, 0, []) else none) else (bif Nat.beq pc 461 then some (.iconst 0, 0, 0, 0, []) else bif Nat.beq pc 462 then some (.ireturn, 0, 0, 0, []) else none))) else (bif Nat.ble pc 468 then (bif Nat.ble pc 464 then (bif Nat.beq pc 463 then some (.aload_n 1, 1, 0, 0, []) else bif Nat.beq pc 464 then some (.new 58, 12, 0, 0, []) else none) else (bif Nat.beq pc 467 then some (.dup, 0, 0, 0, []) else bif Nat.beq pc 468 then some (.invokespecial 60, 167, 1, 0, []) else none)) else (bif Nat.ble pc 473 then (bif Nat.beq pc 471 then some (.iload 5, 5, 0, 0, []) else bif Nat.beq pc 473 then some (.invokestatic 82, 196, 1, 0, []) else none) else (bif Nat.beq pc 476 then some (.invokevirtual 70, 169, 1, 0, []) else bif Nat.beq pc 479 then some (.ldc 161, 1, 136, 0, []) else none)))) else (bif Nat.ble pc 499 then (bif Nat.ble pc 489 then (bif Nat.ble pc 484 then (bif Nat.beq pc 481 then some (.invokevirtual 61, 168, 1, 0, []) else bif Nat.beq pc 484 then some (.iload 5, 5, 0, 0, []) else none) else (bif Nat.beq pc 486 then some (.invokestatic 137, 200, 1, 0, []) else bif Nat.beq pc 489 then some (.invokevirtual 61, 168, 1, 0, []) else none)) else (bif Nat.ble pc 494 then (bif Nat.beq pc 492 then some (.ldc 163, 1, 138, 0, []) else bif Nat.beq pc 494 then some (.invokevirtual 61, 168, 1, 0, []) else none) else (bif Nat.beq pc 497 then some (.iload 6, 6, 0, 0, []) else bif Nat.beq pc 499 then some (.invokestatic 82, 196, 1, 0, []) else none))) else (bif Nat.ble pc 510 then (bif Nat.ble pc 505 then (bif Nat.beq pc 502 then some (.invokevirtual 70, 169, 1, 0, []) else bif Nat.beq pc 505 then some (.ldc 165, 1, 140, 0, []) else none) else (bif Nat.beq pc 507 then some (.invokevirtual 61, 168, 1, 0, []) else bif Nat.beq pc 510 then some (.invokevirtual 73, 170, 0, 0, []) else none)) else (bif Nat.ble pc 516 then (bif Nat.beq pc 513 then some (.invokestatic 27, 193, 2, 0, []) else bif Nat.beq pc 516 then some (.ifCond .ne 5, 521, 0, 0, []) else none) else (bif Nat.beq pc 519 then some (.iconst 0, 0, 0, 0, []) else bif Nat.beq pc 520 then some (.ireturn, 0, 0, 0, []) else none))))) else (bif Nat.ble pc 551 then (bif Nat.ble pc 536 then (bif Nat.ble pc 527 then (bif Nat.ble pc 522 then (bif Nat.beq pc 521 then some (.aload_n 1, 1, 0, 0, []) else bif Nat.beq pc 522 then some (.invokevirtual 167, 63, 0, 0, []) else none) else (bif Nat.beq pc 525 then some (.istore 8, 8, 0, 0, []) else bif Nat.beq pc 527 then some (.iload 8, 8, 0, 0, []) else none)) else (bif Nat.ble pc 532 then (bif Nat.beq pc 529 then some (.sipush (-300), 0, 0, -300, []) else bif Nat.beq pc 532 then some (.if_icmp .le 7, 539, 0, 0, []) else none) else (bif Nat.beq pc 535 then some (.iconst 1, 0, 0, 1, []) else bif Nat.beq pc 536 then some (.goto 4, 540, 0, 0, []) else none))) else (bif Nat.ble pc 542 then (bif Nat.ble pc 540 then (bif Nat.beq pc 539 then some (.iconst 0, 0, 0, 0, []) else bif Nat.beq pc 540 then some (.aload_n 1, 1, 0, 0, []) else none) else (bif Nat.beq pc 541 then some (.iconst 0, 0, 0, 0, []) else bif Nat.beq pc 542 then some (.invokevirtual 24, 162, 1, 0, []) else none)) else (bif Nat.ble pc 547 then (bif Nat.beq pc 545 then some (.iload 7, 7, 0, 0, []) else bif Nat.beq pc 547 then some (.if_icmp .le 7, 554, 0, 0, []) else none) else (bif Nat.beq pc 550 then some (.iconst 1, 0, 0, 1, []) else bif Nat.beq pc 551 then some (.goto 4, 555, 0, 0, []) else none)))) else (bif Nat.ble pc 568 then (bif Nat.ble pc 560 then (bif Nat.ble pc 555 then (bif Nat.beq pc 554 then some (.iconst 0, 0, 0, 0, []) else bif Nat.beq pc 555 then some (.if_icmp .ne 21, 576, 0, 0, []) else none) else (bif Nat.beq pc 558 then some (.iload 8, 8, 0, 0, []) else bif Nat.beq pc 560 then some (.ifCond .le 18, 578, 0, 0, []) else none)) else (bif Nat.ble pc 564 then (bif Nat.beq pc 563 then some (.aload_n 1, 1, 0, 0, []) else bif Nat.beq pc 564 then some (.iconst 0, 0, 0, 0, []) else none) else (bif Nat.beq pc 565 then some (.invokevirtual 24, 162, 1, 0, []) else bif Nat.beq pc 568 then some (.iload 7, 7, 0, 0, []) else none))) else (bif Nat.ble pc 576 then (bif Nat.ble pc 572 then (bif Nat.beq pc 570 then some (.iload 8, 8, 0, 0, []) else bif Nat.beq pc 572 then some (.iadd, 0, 0, 0, []) else none) else (bif Nat.beq pc 573 then some (.if_icmp .eq 5, 578, 0, 0, []) else bif Nat.beq pc 576 then some (.iconst 0, 0, 0, 0, []) else none)) else (bif Nat.ble pc 578 then (bif Nat.beq pc 577 then some (.ireturn, 0, 0, 0, []) else bif Nat.beq pc 578 then some (.aload_n 1, 1, 0, 0, []) else none) else (bif Nat.beq pc 579 then some (.invokestatic 170, 203, 1, 0, []) else bif Nat.beq pc 582 then some (.ifCond .eq 31, 613, 0, 0, []) else none)))))) else (bif Nat.ble pc 639 then (bif Nat.ble pc 608 then (bif Nat.ble pc 596 then (bif Nat.ble pc 590 then (bif Nat.ble pc 586 then (bif Nat.beq pc 585 then some (.aload_n 1, 1, 0, 0, []) else bif Nat.beq pc 586 then some (.iconst 4, 0, 0, 4, []) else none) else (bif Nat.beq pc 587 then some (.invokevirtual 174, 161, 1, 0, []) else bif Nat.beq pc 590 then some (.iload_n 3, 3, 0, 0, []) else none)) else (bif Nat.ble pc 594 then (bif Nat.beq pc 591 then some (.if_icmp .ne 22, 613, 0, 0, []) else bif Nat.beq pc 594 then some (.aload_n 1, 1, 0, 0, []) else none) else (bif Nat.beq pc 595 then some (.iconst 0, 0, 0, 0, []) else bif Nat.beq pc 596 then some (.iconst 0, 0, 0, 0, []) else none))) else (bif Nat.ble pc 602 then (bif Nat.ble pc 598 then (bif Nat.beq pc 597 then some (.iconst 0, 0, 0, 0, []) else bif Nat.beq pc 598 then some (.invokevirtual 177, 125, 3, 0, []) else none) else (bif Nat.beq pc 601 then some (.aload_n 1, 1, 0, 0, []) else bif Nat.beq pc 602 then some (.iconst 1, 0, 0, 1, []) else none)) else (bif Nat.ble pc 604 then (bif Nat.beq pc 603 then some (.iconst 0, 0, 0, 0, []) else bif Nat.beq pc 604 then some (.iconst 0, 0, 0, 0, []) else none) else (bif Nat.beq pc 605 then some (.invokevirtual 177, 125, 3, 0, []) else bif Nat.beq pc 608 then some (.iadd, 0, 0, 0, []) else none)))) else (bif Nat.ble pc 622 then (bif Nat.ble pc 614 then (bif Nat.ble pc 610 then (bif Nat.beq pc 609 then some (.iload_n 3, 3, 0, 0, []) else bif Nat.beq pc 610 then some (.if_icmp .eq 5, 615, 0, 0, []) else none) else (bif Nat.beq pc 613 then some (.iconst 0, 0, 0, 0, []) else bif Nat.beq pc 614 then some (.ireturn, 0, 0, 0, []) else none)) else (bif Nat.ble pc 618 then (bif Nat.beq pc 615 then some (.iinc 4 1, 4, 0, 1, []) else bif Nat.beq pc 618 then some (.goto (-532), 86, 0, 0, []) else none) else (bif Nat.beq pc 621 then some (.aload_n 1, 1, 0, 0, []) else bif Nat.beq pc 622 then some (.ldc 121, 1, 126, 0, []) else none))) else (bif Nat.ble pc 631 then (bif Nat.ble pc 627 then (bif Nat.beq pc 624 then some (.invokestatic 27, 193, 2, 0, []) else bif Nat.beq pc 627 then some (.ifCond .eq 41, 668, 0, 0, []) else none) else (bif Nat.beq pc 630 then some (.aload_n 1, 1, 0, 0, []) else bif Nat.beq pc 631 then some (.iconst 2, 0, 0, 2, []) else none)) else (bif Nat.ble pc 635 then (bif Nat.beq pc 632 then some (.invokevirtual 123, 109, 1, 0, []) else bif Nat.beq pc 635 then some (.iconst 1, 0, 0, 1, []) else none) else (bif Nat.beq pc 636 then some (.if_icmp .ne 32, 668, 0, 0, []) else bif Nat.beq pc 639 then some (.aload_n 1, 1, 0, 0, []) else none))))) else (bif Nat.ble pc 665 then (bif Nat.ble pc 651 then (bif Nat.ble pc 643 then (bif Nat.ble pc 641 then (bif Nat.beq pc 640 then some (.iconst 2, 0, 0, 2, []) else bif Nat.beq pc 641 then some (.iconst 0, 0, 0, 0, []) else none) else (bif Nat.beq pc 642 then some (.iconst 1, 0, 0, 1, []) else bif Nat.beq pc 643 then some (.sipush 240, 0, 0, 240, []) else none)) else (bif Nat.ble pc 649 then (bif Nat.beq pc 646 then some (.invokevirtual 147, 117, 4, 0, []) else bif Nat.beq pc 649 then some (.aload_n 1, 1, 0, 0, []) else none) else (bif Nat.beq pc 650 then some (.iconst 0, 0, 0, 0, []) else bif Nat.beq pc 651 then some (.invokevirtual 24, 162, 1, 0, []) else none))) else (bif Nat.ble pc 659 then (bif Nat.ble pc 657 then (bif Nat.beq pc 654 then some (.if_icmp .ne 14, 668, 0, 0, []) else bif Nat.beq pc 657 then some (.aload_n 1, 1, 0, 0, []) else none) else (bif Nat.beq pc 658 then some (.iconst 2, 0, 0, 2, []) else bif Nat.beq pc 659 then some (.iconst 0, 0, 0, 0, []) else none)) else (bif Nat.ble pc 661 then (bif Nat.beq pc 660 then some (.iconst 3, 0, 0, 3, []) else bif Nat.beq pc 661 then some (.invokevirtual 177, 125, 3, 0, []) else none) else (bif Nat.beq pc 664 then some (.iconst 1, 0, 0, 1, []) else bif Nat.beq pc 665 then some (.if_icmp .eq 5, 670, 0, 0, []) else none)))) else (bif Nat.ble pc 679 then (bif Nat.ble pc 672 then (bif Nat.ble pc 669 then (bif Nat.beq pc 668 then some (.iconst 0, 0, 0, 0, []) else bif Nat.beq pc 669 then some (.ireturn, 0, 0, 0, []) else none) else (bif Nat.beq pc 670 then some (.bipush 9, 0, 0, 9, []) else bif Nat.beq pc 672 then some (.newarray .int, 0, 0, 0, []) else none)) else (bif Nat.ble pc 676 then (bif Nat.beq pc 674 then some (.astore 4, 4, 0, 0, []) else bif Nat.beq pc 676 then some (.iconst 1, 0, 0, 1, []) else none) else (bif Nat.beq pc 677 then some (.istore 5, 5, 0, 0, []) else bif Nat.beq pc 679 then some (.iload 5, 5, 0, 0, []) else none))) else (bif Nat.ble pc 684 then (bif Nat.ble pc 682 then (bif Nat.beq pc 681 then some (.aload_n 1, 1, 0, 0, []) else bif Nat.beq pc 682 then some (.iconst 1, 0, 0, 1, []) else none) else (bif Nat.beq pc 683 then some (.iconst 0, 0, 0, 0, []) else bif Nat.beq pc 684 then some (.iconst 0, 0, 0, 0, []) else none)) else (bif Nat.ble pc 688 then (bif Nat.beq pc 685 then some (.invokevirtual 177, 125, 3, 0, []) else bif Nat.beq pc 688 then some (.if_icmp .gt 23, 711, 0, 0, []) else none) else (bif Nat.beq pc 691 then some (.aload 4, 4, 0, 0, []) else bif Nat.beq pc 693 then some (.aload_n 1, 1, 0, 0, []) else none))))))) else (bif Nat.ble pc 803 then (bif Nat.ble pc 750 then (bif Nat.ble pc 718 then (bif Nat.ble pc 703 then (bif Nat.ble pc 697 then (bif Nat.beq pc 694 then some (.iload 5, 5, 0, 0, []) else bif Nat.beq pc 696 then some (.iconst 2, 0, 0, 2, []) else bif Nat.beq pc 697 then some (.invokevirtual 105, 99, 2, 0, []) else none) else (bif Nat.ble pc 701 then (bif Nat.beq pc 700 then some (.dup2, 0, 0, 0, []) else bif Nat.beq pc 701 then some (.iaload, 20, 0, 0, []) else none) else (bif Nat.beq pc 702 then some (.iconst 1, 0, 0, 1, []) else bif Nat.beq pc 703 then some (.iadd, 0, 0, 0, []) else none))) else (bif Nat.ble pc 711 then (bif Nat.ble pc 705 then (bif Nat.beq pc 704 then some (.iastore, 0, 0, 0, []) else bif Nat.beq pc 705 then some (.iinc 5 1, 5, 0, 1, []) else none) else (bif Nat.beq pc 708 then some (.goto (-29), 679, 0, 0, []) else bif Nat.beq pc 711 then some (.iconst 0, 0, 0, 0, []) else none)) else (bif Nat.ble pc 714 then (bif Nat.beq pc 712 then some (.istore 5, 5, 0, 0, []) else bif Nat.beq pc 714 then some (.iload 5, 5, 0, 0, []) else none) else (bif Nat.beq pc 716 then some (.bipush 9, 0, 0, 9, []) else bif Nat.beq pc 718 then some (.if_icmp .ge 40, 758, 0, 0, []) else none)))) else (bif Nat.ble pc 733 then (bif Nat.ble pc 724 then (bif Nat.ble pc 722 then (bif Nat.beq pc 721 then some (.aload_n 1, 1, 0, 0, []) else bif Nat.beq pc 722 then some (.iconst 1, 0, 0, 1, []) else none) else (bif Nat.beq pc 723 then some (.iconst 0, 0, 0, 0, []) else bif Nat.beq pc 724 then some (.iload 5, 5, 0, 0, []) else none)) else (bif Nat.ble pc 729 then (bif Nat.beq pc 726 then some (.invokevirtual 180, 131, 3, 0, []) else bif Nat.beq pc 729 then some (.aload 4, 4, 0, 0, []) else none) else (bif Nat.beq pc 731 then some (.iload 5, 5, 0, 0, []) else bif Nat.beq pc 733 then some (.iaload, 20, 0, 0, []) else none))) else (bif Nat.ble pc 742 then (bif Nat.ble pc 737 then (bif Nat.beq pc 734 then some (.ifCond .ne 8, 742, 0, 0, []) else bif Nat.beq pc 737 then some (.ldc 183, 0, 0, -2000000000, []) else none) else (bif Nat.beq pc 739 then some (.goto 8, 747, 0, 0, []) else bif Nat.beq pc 742 then some (.aload 4, 4, 0, 0, []) else none)) else (bif Nat.ble pc 746 then (bif Nat.beq pc 744 then some (.iload 5, 5, 0, 0, []) else bif Nat.beq pc 746 then some (.iaload, 20, 0, 0, []) else none) else (bif Nat.beq pc 747 then some (.if_icmp .eq 5, 752, 0, 0, []) else bif Nat.beq pc 750 then some (.iconst 0, 0, 0, 0, []) else none))))) else (bif Nat.ble pc 774 then (bif Nat.ble pc 762 then (bif Nat.ble pc 758 then (bif Nat.ble pc 752 then (bif Nat.beq pc 751 then some (.ireturn, 0, 0, 0, []) else bif Nat.beq pc 752 then some (.iinc 5 1, 5, 0, 1, []) else none) else (bif Nat.beq pc 755 then some (.goto (-41), 714, 0, 0, []) else bif Nat.beq pc 758 then some (.aload_n 1, 1, 0, 0, []) else none)) else (bif Nat.ble pc 760 then (bif Nat.beq pc 759 then some (.iconst 1, 0, 0, 1, []) else bif Nat.beq pc 760 then some (.iconst 0, 0, 0, 0, []) else none) else (bif Nat.beq pc 761 then some (.iconst 3, 0, 0, 3, []) else bif Nat.beq pc 762 then some (.invokevirtual 177, 125, 3, 0, []) else none))) else (bif Nat.ble pc 770 then (bif Nat.ble pc 766 then (bif Nat.beq pc 765 then some (.iconst 1, 0, 0, 1, []) else bif Nat.beq pc 766 then some (.if_icmp .eq 5, 771, 0, 0, []) else none) else (bif Nat.beq pc 769 then some (.iconst 0, 0, 0, 0, []) else bif Nat.beq pc 770 then some (.ireturn, 0, 0, 0, []) else none)) else (bif Nat.ble pc 772 then (bif Nat.beq pc 771 then some (.aload_n 1, 1, 0, 0, []) else bif Nat.beq pc 772 then some (.iconst 0, 0, 0, 0, []) else none) else (bif Nat.beq pc 773 then some (.iconst 0, 0, 0, 0, []) else bif Nat.beq pc 774 then some (.iconst 0, 0, 0, 0, []) else none)))) else (bif Nat.ble pc 789 then (bif Nat.ble pc 781 then (bif Nat.ble pc 778 then (bif Nat.beq pc 775 then some (.invokevirtual 177, 125, 3, 0, []) else bif Nat.beq pc 778 then some (.istore 5, 5, 0, 0, []) else none) else (bif Nat.beq pc 780 then some (.aload_n 1, 1, 0, 0, []) else bif Nat.beq pc 781 then some (.iconst 0, 0, 0, 0, []) else none)) else (bif Nat.ble pc 785 then (bif Nat.beq pc 782 then some (.invokevirtual 184, 115, 1, 0, []) else bif Nat.beq pc 785 then some (.iconst 1, 0, 0, 1, []) else none) else (bif Nat.beq pc 786 then some (.if_icmp .ne 22, 808, 0, 0, []) else bif Nat.beq pc 789 then some (.iload 5, 5, 0, 0, []) else none))) else (bif Nat.ble pc 796 then (bif Nat.ble pc 794 then (bif Nat.beq pc 791 then some (.ifCond .le 19, 810, 0, 0, []) else bif Nat.beq pc 794 then some (.aload_n 1, 1, 0, 0, []) else none) else (bif Nat.beq pc 795 then some (.iconst 0, 0, 0, 0, []) else bif Nat.beq pc 796 then some (.iconst 1, 0, 0, 1, []) else none)) else (bif Nat.ble pc 798 then (bif Nat.beq pc 797 then some (.iconst 1, 0, 0, 1, []) else bif Nat.beq pc 798 then some (.iload 5, 5, 0, 0, []) else none) else (bif Nat.beq pc 800 then some (.invokevirtual 147, 117, 4, 0, []) else bif Nat.beq pc 803 then some (.iload 5, 5, 0, 0, []) else none)))))) else (bif Nat.ble pc 860 then (bif Nat.ble pc 830 then (bif Nat.ble pc 816 then (bif Nat.ble pc 810 then (bif Nat.ble pc 808 then (bif Nat.beq pc 805 then some (.if_icmp .eq 5, 810, 0, 0, []) else bif Nat.beq pc 808 then some (.iconst 0, 0, 0, 0, []) else none) else (bif Nat.beq pc 809 then some (.ireturn, 0, 0, 0, []) else bif Nat.beq pc 810 then some (.iconst 1, 0, 0, 1, []) else none)) else (bif Nat.ble pc 813 then (bif Nat.beq pc 811 then some (.istore 6, 6, 0, 0, []) else bif Nat.beq pc 813 then some (.iconst 0, 0, 0, 0, []) else none) else (bif Nat.beq pc 814 then some (.istore 7, 7, 0, 0, []) else bif Nat.beq pc 816 then some (.iload 7, 7, 0, 0, []) else none))) else (bif Nat.ble pc 825 then (bif Nat.ble pc 820 then (bif Nat.beq pc 818 then some (.bipush 8, 0, 0, 8, []) else bif Nat.beq pc 820 then some (.if_icmp .ge 38, 858, 0, 0, []) else none) else (bif Nat.beq pc 823 then some (.iload 6, 6, 0, 0, []) else bif Nat.beq pc 825 then some (.aload_n 1, 1, 0, 0, []) else none)) else (bif Nat.ble pc 827 then (bif Nat.beq pc 826 then some (.iconst 0, 0, 0, 0, []) else bif Nat.beq pc 827 then some (.iconst 0, 0, 0, 0, []) else none) else (bif Nat.beq pc 828 then some (.iload 7, 7, 0, 0, []) else bif Nat.beq pc 830 then some (.invokevirtual 180, 131, 3, 0, []) else none)))) else (bif Nat.ble pc 845 then (bif Nat.ble pc 836 then (bif Nat.ble pc 834 then (bif Nat.beq pc 833 then some (.aload_n 1, 1, 0, 0, []) else bif Nat.beq pc 834 then some (.iconst 0, 0, 0, 0, []) else none) else (bif Nat.beq pc 835 then some (.iconst 1, 0, 0, 1, []) else bif Nat.beq pc 836 then some (.iload 7, 7, 0, 0, []) else none)) else (bif Nat.ble pc 841 then (bif Nat.beq pc 838 then some (.invokevirtual 180, 131, 3, 0, []) else bif Nat.beq pc 841 then some (.if_icmp .ne 7, 848, 0, 0, []) else none) else (bif Nat.beq pc 844 then some (.iconst 1, 0, 0, 1, []) else bif Nat.beq pc 845 then some (.goto 4, 849, 0, 0, []) else none))) else (bif Nat.ble pc 852 then (bif Nat.ble pc 849 then (bif Nat.beq pc 848 then some (.iconst 0, 0, 0, 0, []) else bif Nat.beq pc 849 then some (.iand, 0, 0, 0, []) else none) else (bif Nat.beq pc 850 then some (.istore 6, 6, 0, 0, []) else bif Nat.beq pc 852 then some (.iinc 7 1, 7, 0, 1, []) else none)) else (bif Nat.ble pc 858 then (bif Nat.beq pc 855 then some (.goto (-39), 816, 0, 0, []) else bif Nat.beq pc 858 then some (.aload_n 1, 1, 0, 0, []) else none) else (bif Nat.beq pc 859 then some (.iconst 0, 0, 0, 0, []) else bif Nat.beq pc 860 then some (.iconst 0, 0, 0, 0, []) else none))))) else (bif Nat.ble pc 887 then (bif Nat.ble pc 874 then (bif Nat.ble pc 866 then (bif Nat.ble pc 862 then (bif Nat.beq pc 861 then some (.iconst 3, 0, 0, 3, []) else bif Nat.beq pc 862 then some (.invokevirtual 177, 125, 3, 0, []) else none) else (bif Nat.beq pc 865 then some (.iconst 1, 0, 0, 1, []) else bif Nat.beq pc 866 then some (.if_icmp .ne 7, 873, 0, 0, []) else none)) else (bif Nat.ble pc 870 then (bif Nat.beq pc 869 then some (.iconst 1, 0, 0, 1, []) else bif Nat.beq pc 870 then some (.goto 4, 874, 0, 0, []) else none) else (bif Nat.beq pc 873 then some (.iconst 0, 0, 0, 0, []) else bif Nat.beq pc 874 then some (.iload 6, 6, 0, 0, []) else none))) else (bif Nat.ble pc 881 then (bif Nat.ble pc 879 then (bif Nat.beq pc 876 then some (.if_icmp .ne 39, 915, 0, 0, []) else bif Nat.beq pc 879 then some (.aload_n 1, 1, 0, 0, []) else none) else (bif Nat.beq pc 880 then some (.iconst 0, 0, 0, 0, []) else bif Nat.beq pc 881 then some (.iconst 1, 0, 0, 1, []) else none)) else (bif Nat.ble pc 883 then (bif Nat.beq pc 882 then some (.iconst 3, 0, 0, 3, []) else bif Nat.beq pc 883 then some (.invokevirtual 177, 125, 3, 0, []) else none) else (bif Nat.beq pc 886 then some (.iconst 1, 0, 0, 1, []) else bif Nat.beq pc 887 then some (.if_icmp .ne 28, 915, 0, 0, []) else none)))) else (bif Nat.ble pc 902 then (bif Nat.ble pc 895 then (bif Nat.ble pc 891 then (bif Nat.beq pc 890 then some (.aload_n 1, 1, 0, 0, []) else bif Nat.beq pc 891 then some (.iconst 0, 0, 0, 0, []) else none) else (bif Nat.beq pc 892 then some (.invokevirtual 187, 124, 1, 0, []) else bif Nat.beq pc 895 then some (.iload 5, 5, 0, 0, []) else none)) else (bif Nat.ble pc 900 then (bif Nat.beq pc 897 then some (.if_icmp .ne 18, 915, 0, 0, []) else bif Nat.beq pc 900 then some (.aload_n 1, 1, 0, 0, []) else none) else (bif Nat.beq pc 901 then some (.iconst 0, 0, 0, 0, []) else bif Nat.beq pc 902 then some (.iconst 0, 0, 0, 0, []) else none))) else (bif Nat.ble pc 908 then (bif Nat.ble pc 904 then (bif Nat.beq pc 903 then some (.iconst 3, 0, 0, 3, []) else bif Nat.beq pc 904 then some (.invokevirtual 177, 125, 3, 0, []) else none) else (bif Nat.beq pc 907 then some (.iconst 1, 0, 0, 1, []) else bif Nat.beq pc 908 then some (.if_icmp .ne 7, 915, 0, 0, []) else none)) else (bif Nat.ble pc 912 then (bif Nat.beq pc 911 then some (.iconst 1, 0, 0, 1, []) else bif Nat.beq pc 912 then some (.goto 4, 916, 0, 0, []) else none) else (bif Nat.beq pc 915 then some (.iconst 0, 0, 0, 0, []) else bif Nat.beq pc 916 then some (.ireturn, 0, 0, 0, []) else none))))))))
def lenT (y : Nat) : Nat := bif Nat.ble 269 y then 0 else (bif Nat.ble y 133 then (bif Nat.ble y 66 then (bif Nat.ble y 32 then (bif Nat.ble y 15 then (bif Nat.ble y 7 then (bif Nat.ble y 3 then (bif Nat.ble y 1 then (bif Nat.ble y 0 then (54) else (34)) else (bif Nat.ble y 2 then (33) else (13))) else (bif Nat.ble y 5 then (bif Nat.ble y 4 then (134) else (30)) else (bif Nat.ble y 6 then (42) else (11)))) else (bif Nat.ble y 11 then (bif Nat.ble y 9 then (bif Nat.ble y 8 then (15) else (29)) else (bif Nat.ble y 10 then (21) else (24))) else (bif Nat.ble y 13 then (bif Nat.ble y 12 then (16) else (40)) else (bif Nat.ble y 14 then (77) else (8))))) else (bif Nat.ble y 23 then (bif Nat.ble y 19 then (bif Nat.ble y 17 then (bif Nat.ble y 16 then (11) else (141)) else (bif Nat.ble y 18 then (102) else (52))) else (bif Nat.ble y 21 then (bif Nat.ble y 20 then (25) else (19)) else (bif Nat.ble y 22 then (15) else (59)))) else (bif Nat.ble y 27 then (bif Nat.ble y 25 then (bif Nat.ble y 24 then (22) else (26)) else (bif Nat.ble y 26 then (30) else (44))) else (bif Nat.ble y 29 then (bif Nat.ble y 28 then (35) else (92)) else (bif Nat.ble y 30 then (104) else (bif Nat.ble y 31 then (18) else (74))))))) else (bif Nat.ble y 49 then (bif Nat.ble y 40 then (bif Nat.ble y 36 then (bif Nat.ble y 34 then (bif Nat.ble y 33 then (33) else (59)) else (bif Nat.ble y 35 then (7) else (37))) else (bif Nat.ble y 38 then (bif Nat.ble y 37 then (37) else (17)) else (bif Nat.ble y 39 then (11) else (11)))) else (bif Nat.ble y 44 then (bif Nat.ble y 42 then (bif Nat.ble y 41 then (33) else (22)) else (bif Nat.ble y 43 then (33) else (18))) else (bif Nat.ble y 46 then (bif Nat.ble y 45 then (29) else (106)) else (bif Nat.ble y 47 then (24) else (bif Nat.ble y 48 then (24) else (104)))))) else (bif Nat.ble y 57 then (bif Nat.ble y 53 then (bif Nat.ble y 51 then (bif Nat.ble y 50 then (191) else (30)) else (bif Nat.ble y 52 then (15) else (9))) else (bif Nat.ble y 55 then (bif Nat.ble y 54 then (75) else (26)) else (bif Nat.ble y 56 then (86) else (31)))) else (bif Nat.ble y 61 then (bif Nat.ble y 59 then (bif Nat.ble y 58 then (132) else (31)) else (bif Nat.ble y 60 then (15) else (105))) else (bif Nat.ble y 63 then (bif Nat.ble y 62 then (72) else (49)) else (bif Nat.ble y 64 then (62) else (bif Nat.ble y 65 then (6) else (40)))))))) else (bif Nat.ble y 99 then (bif Nat.ble y 82 then (bif Nat.ble y 74 then (bif Nat.ble y 70 then (bif Nat.ble y 68 then (bif Nat.ble y 67 then (93) else (131)) else (bif Nat.ble y 69 then (19) else (32))) else (bif Nat.ble y 72 then (bif Nat.ble y 71 then (32) else (43)) else (bif Nat.ble y 73 then (90) else (42)))) else (bif Nat.ble y 78 then (bif Nat.ble y 76 then (bif Nat.ble y 75 then (110) else (37)) else (bif Nat.ble y 77 then (9) else (46))) else (bif Nat.ble y 80 then (bif Nat.ble y 79 then (121) else (43)) else (bif Nat.ble y 81 then (10) else (44))))) else (bif Nat.ble y 90 then (bif Nat.ble y 86 then (bif Nat.ble y 84 then (bif Nat.ble y 83 then (184) else (18)) else (bif Nat.ble y 85 then (185) else (24))) else (bif Nat.ble y 88 then (bif Nat.ble y 87 then (51) else (61)) else (bif Nat.ble y 89 then (32) else (40)))) else (bif Nat.ble y 94 then (bif Nat.ble y 92 then (bif Nat.ble y 91 then (36) else (78)) else (bif Nat.ble y 93 then (24) else (29))) else (bif Nat.ble y 96 then (bif Nat.ble y 95 then (45) else (0)) else (bif Nat.ble y 97 then (0) else (bif Nat.ble y 98 then (30) else (86))))))) else (bif Nat.ble y 116 then (bif Nat.ble y 107 then (bif Nat.ble y 103 then (bif Nat.ble y 101 then (bif Nat.ble y 100 then (0) else (0)) else (bif Nat.ble y 102 then (0) else (0))) else (bif Nat.ble y 105 then (bif Nat.ble y 104 then (0) else (0)) else (bif Nat.ble y 106 then (30) else (0)))) else (bif Nat.ble y 111 then (bif Nat.ble y 109 then (bif Nat.ble y 108 then (0) else (63)) else (bif Nat.ble y 110 then (7) else (116))) else (bif Nat.ble y 113 then (bif Nat.ble y 112 then (86) else (17)) else (bif Nat.ble y 114 then (34) else (bif Nat.ble y 115 then (98) else (24)))))) else (bif Nat.ble y 124 then (bif Nat.ble y 120 then (bif Nat.ble y 118 then (bif Nat.ble y 117 then (69) else (31)) else (bif Nat.ble y 119 then (96) else (38))) else (bif Nat.ble y 122 then (bif Nat.ble y 121 then (128) else (31)) else (bif Nat.ble y 123 then (64) else (76)))) else (bif Nat.ble y 128 then (bif Nat.ble y 126 then (bif Nat.ble y 125 then (133) else (8)) else (bif Nat.ble y 127 then (53) else (44))) else (bif Nat.ble y 130 then (bif Nat.ble y 129 then (66) else (42)) else (bif Nat.ble y 131 then (67) else (bif Nat.ble y 132 then (67) else (85))))))))) else (bif Nat.ble y 200 then (bif Nat.ble y 166 then (bif Nat.ble y 149 then (bif Nat.ble y 141 then (bif Nat.ble y 137 then (bif Nat.ble y 135 then (bif Nat.ble y 134 then (20) else (49)) else (bif Nat.ble y 136 then (55) else (111))) else (bif Nat.ble y 139 then (bif Nat.ble y 138 then (29) else (33)) else (bif Nat.ble y 140 then (0) else (0)))) else (bif Nat.ble y 145 then (bif Nat.ble y 143 then (bif Nat.ble y 142 then (0) else (0)) else (bif Nat.ble y 144 then (0) else (0))) else (bif Nat.ble y 147 then (bif Nat.ble y 146 then (0) else (0)) else (bif Nat.ble y 148 then (0) else (0))))) else (bif Nat.ble y 157 then (bif Nat.ble y 153 then (bif Nat.ble y 151 then (bif Nat.ble y 150 then (0) else (0)) else (bif Nat.ble y 152 then (0) else (0))) else (bif Nat.ble y 155 then (bif Nat.ble y 154 then (0) else (0)) else (bif Nat.ble y 156 then (0) else (0)))) else (bif Nat.ble y 161 then (bif Nat.ble y 159 then (bif Nat.ble y 158 then (0) else (0)) else (bif Nat.ble y 160 then (0) else (24))) else (bif Nat.ble y 163 then (bif Nat.ble y 162 then (126) else (38)) else (bif Nat.ble y 164 then (38) else (bif Nat.ble y 165 then (30) else (38))))))) else (bif Nat.ble y 183 then (bif Nat.ble y 174 then (bif Nat.ble y 170 then (bif Nat.ble y 168 then (bif Nat.ble y 167 then (7) else (8)) else (bif Nat.ble y 169 then (8) else (9))) else (bif Nat.ble y 172 then (bif Nat.ble y 171 then (5) else (39)) else (bif Nat.ble y 173 then (45) else (55)))) else (bif Nat.ble y 178 then (bif Nat.ble y 176 then (bif Nat.ble y 175 then (39) else (59)) else (bif Nat.ble y 177 then (19) else (19))) else (bif Nat.ble y 180 then (bif Nat.ble y 179 then (22) else (5)) else (bif Nat.ble y 181 then (5) else (bif Nat.ble y 182 then (7) else (98)))))) else (bif Nat.ble y 191 then (bif Nat.ble y 187 then (bif Nat.ble y 185 then (bif Nat.ble y 184 then (44) else (47)) else (bif Nat.ble y 186 then (121) else (33))) else (bif Nat.ble y 189 then (bif Nat.ble y 188 then (25) else (33)) else (bif Nat.ble y 190 then (38) else (27)))) else (bif Nat.ble y 195 then (bif Nat.ble y 193 then (bif Nat.ble y 192 then (21) else (51)) else (bif Nat.ble y 194 then (35) else (8))) else (bif Nat.ble y 197 then (bif Nat.ble y 196 then (4) else (19)) else (bif Nat.ble y 198 then (21) else (bif Nat.ble y 199 then (7) else (131)))))))) else (bif Nat.ble y 234 then (bif Nat.ble y 217 then (bif Nat.ble y 208 then (bif Nat.ble y 204 then (bif Nat.ble y 202 then (bif Nat.ble y 201 then (44) else (77)) else (bif Nat.ble y 203 then (279) else (0))) else (bif Nat.ble y 206 then (bif Nat.ble y 205 then (0) else (0)) else (bif Nat.ble y 207 then (0) else (0)))) else (bif Nat.ble y 212 then (bif Nat.ble y 210 then (bif Nat.ble y 209 then (0) else (0)) else (bif Nat.ble y 211 then (0) else (0))) else (bif Nat.ble y 214 then (bif Nat.ble y 213 then (0) else (0)) else (bif Nat.ble y 215 then (0) else (bif Nat.ble y 216 then (0) else (0)))))) else (bif Nat.ble y 225 then (bif Nat.ble y 221 then (bif Nat.ble y 219 then (bif Nat.ble y 218 then (0) else (0)) else (bif Nat.ble y 220 then (0) else (0))) else (bif Nat.ble y 223 then (bif Nat.ble y 222 then (0) else (0)) else (bif Nat.ble y 224 then (0) else (0)))) else (bif Nat.ble y 229 then (bif Nat.ble y 227 then (bif Nat.ble y 226 then (0) else (0)) else (bif Nat.ble y 228 then (0) else (0))) else (bif Nat.ble y 231 then (bif Nat.ble y 230 then (0) else (0)) else (bif Nat.ble y 232 then (0) else (bif Nat.ble y 233 then (0) else (0))))))) else (bif Nat.ble y 251 then (bif Nat.ble y 242 then (bif Nat.ble y 238 then (bif Nat.ble y 236 then (bif Nat.ble y 235 then (0) else (0)) else (bif Nat.ble y 237 then (0) else (0))) else (bif Nat.ble y 240 then (bif Nat.ble y 239 then (0) else (0)) else (bif Nat.ble y 241 then (0) else (0)))) else (bif Nat.ble y 246 then (bif Nat.ble y 244 then (bif Nat.ble y 243 then (0) else (0)) else (bif Nat.ble y 245 then (0) else (0))) else (bif Nat.ble y 248 then (bif Nat.ble y 247 then (0) else (0)) else (bif Nat.ble y 249 then (0) else (bif Nat.ble y 250 then (0) else (0)))))) else (bif Nat.ble y 259 then (bif Nat.ble y 255 then (bif Nat.ble y 253 then (bif Nat.ble y 252 then (0) else (0)) else (bif Nat.ble y 254 then (0) else (0))) else (bif Nat.ble y 257 then (bif Nat.ble y 256 then (0) else (0)) else (bif Nat.ble y 258 then (0) else (0)))) else (bif Nat.ble y 263 then (bif Nat.ble y 261 then (bif Nat.ble y 260 then (0) else (0)) else (bif Nat.ble y 262 then (0) else (0))) else (bif Nat.ble y 265 then (bif Nat.ble y 264 then (0) else (0)) else (bif Nat.ble y 266 then (0) else (bif Nat.ble y 267 then (0) else (917))))))))))
def prog (y pc : Nat) : Option PE := bif Nat.ble (lenT y) pc then none else (bif Nat.ble y 133 then (bif Nat.ble y 66 then (bif Nat.ble y 32 then (bif Nat.ble y 15 then (bif Nat.ble y 7 then (bif Nat.ble y 3 then (bif Nat.ble y 1 then (bif Nat.ble y 0 then (p0 pc) else (p1 pc)) else (bif Nat.ble y 2 then (p2 pc) else (p3 pc))) else (bif Nat.ble y 5 then (bif Nat.ble y 4 then (p4 pc) else (p5 pc)) else (bif Nat.ble y 6 then (p6 pc) else (p7 pc)))) else (bif Nat.ble y 11 then (bif Nat.ble y 9 then (bif Nat.ble y 8 then (p8 pc) else (p9 pc)) else (bif Nat.ble y 10 then (p10 pc) else (p11 pc))) else (bif Nat.ble y 13 then (bif Nat.ble y 12 then (p12 pc) else (p13 pc)) else (bif Nat.ble y 14 then (p14 pc) else (p15 pc))))) else (bif Nat.ble y 23 then (bif Nat.ble y 19 then (bif Nat.ble y 17 then (bif Nat.ble y 16 then (p16 pc) else (p17 pc)) else (bif Nat.ble y 18 then (p18 pc) else (p19 pc))) else (bif Nat.ble y 21 then (bif Nat.ble y 20 then (p20 pc) else (p21 pc)) else (bif Nat.ble y 22 then (p22 pc) else (p23 pc)))) else (bif Nat.ble y 27 then (bif Nat.ble y 25 then (bif Nat.ble y 24 then (p24 pc) else (p25 pc)) else (bif Nat.ble y 26 then (p26 pc) else (p27 pc))) else (bif Nat.ble y 29 then (bif Nat.ble y 28 then (p28 pc) else (p29 pc)) else (bif Nat.ble y 30 then (p30 pc) else (bif Nat.ble y 31 then (p31 pc) else (p32 pc))))))) else (bif Nat.ble y 49 then (bif Nat.ble y 40 then (bif Nat.ble y 36 then (bif Nat.ble y 34 then (bif Nat.ble y 33 then (p33 pc) else (p34 pc)) else (bif Nat.ble y 35 then (p35 pc) else (p36 pc))) else (bif Nat.ble y 38 then (bif Nat.ble y 37 then (p37 pc) else (p38 pc)) else (bif Nat.ble y 39 then (p39 pc) else (p40 pc)))) else (bif Nat.ble y 44 then (bif Nat.ble y 42 then (bif Nat.ble y 41 then (p41 pc) else (p42 pc)) else (bif Nat.ble y 43 then (p43 pc) else (p44 pc))) else (bif Nat.ble y 46 then (bif Nat.ble y 45 then (p45 pc) else (p46 pc)) else (bif Nat.ble y 47 then (p47 pc) else (bif Nat.ble y 48 then (p48 pc) else (p49 pc)))))) else (bif Nat.ble y 57 then (bif Nat.ble y 53 then (bif Nat.ble y 51 then (bif Nat.ble y 50 then (p50 pc) else (p51 pc)) else (bif Nat.ble y 52 then (p52 pc) else (p53 pc))) else (bif Nat.ble y 55 then (bif Nat.ble y 54 then (p54 pc) else (p55 pc)) else (bif Nat.ble y 56 then (p56 pc) else (p57 pc)))) else (bif Nat.ble y 61 then (bif Nat.ble y 59 then (bif Nat.ble y 58 then (p58 pc) else (p59 pc)) else (bif Nat.ble y 60 then (p60 pc) else (p61 pc))) else (bif Nat.ble y 63 then (bif Nat.ble y 62 then (p62 pc) else (p63 pc)) else (bif Nat.ble y 64 then (p64 pc) else (bif Nat.ble y 65 then (p65 pc) else (p66 pc)))))))) else (bif Nat.ble y 99 then (bif Nat.ble y 82 then (bif Nat.ble y 74 then (bif Nat.ble y 70 then (bif Nat.ble y 68 then (bif Nat.ble y 67 then (p67 pc) else (p68 pc)) else (bif Nat.ble y 69 then (p69 pc) else (p70 pc))) else (bif Nat.ble y 72 then (bif Nat.ble y 71 then (p71 pc) else (p72 pc)) else (bif Nat.ble y 73 then (p73 pc) else (p74 pc)))) else (bif Nat.ble y 78 then (bif Nat.ble y 76 then (bif Nat.ble y 75 then (p75 pc) else (p76 pc)) else (bif Nat.ble y 77 then (p77 pc) else (p78 pc))) else (bif Nat.ble y 80 then (bif Nat.ble y 79 then (p79 pc) else (p80 pc)) else (bif Nat.ble y 81 then (p81 pc) else (p82 pc))))) else (bif Nat.ble y 90 then (bif Nat.ble y 86 then (bif Nat.ble y 84 then (bif Nat.ble y 83 then (p83 pc) else (p84 pc)) else (bif Nat.ble y 85 then (p85 pc) else (p86 pc))) else (bif Nat.ble y 88 then (bif Nat.ble y 87 then (p87 pc) else (p88 pc)) else (bif Nat.ble y 89 then (p89 pc) else (p90 pc)))) else (bif Nat.ble y 94 then (bif Nat.ble y 92 then (bif Nat.ble y 91 then (p91 pc) else (p92 pc)) else (bif Nat.ble y 93 then (p93 pc) else (p94 pc))) else (bif Nat.ble y 96 then (bif Nat.ble y 95 then (p95 pc) else (p96 pc)) else (bif Nat.ble y 97 then (p97 pc) else (bif Nat.ble y 98 then (p98 pc) else (p99 pc))))))) else (bif Nat.ble y 116 then (bif Nat.ble y 107 then (bif Nat.ble y 103 then (bif Nat.ble y 101 then (bif Nat.ble y 100 then (p100 pc) else (p101 pc)) else (bif Nat.ble y 102 then (p102 pc) else (p103 pc))) else (bif Nat.ble y 105 then (bif Nat.ble y 104 then (p104 pc) else (p105 pc)) else (bif Nat.ble y 106 then (p106 pc) else (p107 pc)))) else (bif Nat.ble y 111 then (bif Nat.ble y 109 then (bif Nat.ble y 108 then (p108 pc) else (p109 pc)) else (bif Nat.ble y 110 then (p110 pc) else (p111 pc))) else (bif Nat.ble y 113 then (bif Nat.ble y 112 then (p112 pc) else (p113 pc)) else (bif Nat.ble y 114 then (p114 pc) else (bif Nat.ble y 115 then (p115 pc) else (p116 pc)))))) else (bif Nat.ble y 124 then (bif Nat.ble y 120 then (bif Nat.ble y 118 then (bif Nat.ble y 117 then (p117 pc) else (p118 pc)) else (bif Nat.ble y 119 then (p119 pc) else (p120 pc))) else (bif Nat.ble y 122 then (bif Nat.ble y 121 then (p121 pc) else (p122 pc)) else (bif Nat.ble y 123 then (p123 pc) else (p124 pc)))) else (bif Nat.ble y 128 then (bif Nat.ble y 126 then (bif Nat.ble y 125 then (p125 pc) else (p126 pc)) else (bif Nat.ble y 127 then (p127 pc) else (p128 pc))) else (bif Nat.ble y 130 then (bif Nat.ble y 129 then (p129 pc) else (p130 pc)) else (bif Nat.ble y 131 then (p131 pc) else (bif Nat.ble y 132 then (p132 pc) else (p133 pc))))))))) else (bif Nat.ble y 200 then (bif Nat.ble y 166 then (bif Nat.ble y 149 then (bif Nat.ble y 141 then (bif Nat.ble y 137 then (bif Nat.ble y 135 then (bif Nat.ble y 134 then (p134 pc) else (p135 pc)) else (bif Nat.ble y 136 then (p136 pc) else (p137 pc))) else (bif Nat.ble y 139 then (bif Nat.ble y 138 then (p138 pc) else (p139 pc)) else (bif Nat.ble y 140 then (p140 pc) else (p141 pc)))) else (bif Nat.ble y 145 then (bif Nat.ble y 143 then (bif Nat.ble y 142 then (p142 pc) else (p143 pc)) else (bif Nat.ble y 144 then (p144 pc) else (p145 pc))) else (bif Nat.ble y 147 then (bif Nat.ble y 146 then (p146 pc) else (p147 pc)) else (bif Nat.ble y 148 then (p148 pc) else (p149 pc))))) else (bif Nat.ble y 157 then (bif Nat.ble y 153 then (bif Nat.ble y 151 then (bif Nat.ble y 150 then (p150 pc) else (p151 pc)) else (bif Nat.ble y 152 then (p152 pc) else (p153 pc))) else (bif Nat.ble y 155 then (bif Nat.ble y 154 then (p154 pc) else (p155 pc)) else (bif Nat.ble y 156 then (p156 pc) else (p157 pc)))) else (bif Nat.ble y 161 then (bif Nat.ble y 159 then (bif Nat.ble y 158 then (p158 pc) else (p159 pc)) else (bif Nat.ble y 160 then (p160 pc) else (p161 pc))) else (bif Nat.ble y 163 then (bif Nat.ble y 162 then (p162 pc) else (p163 pc)) else (bif Nat.ble y 164 then (p164 pc) else (bif Nat.ble y 165 then (p165 pc) else (p166 pc))))))) else (bif Nat.ble y 183 then (bif Nat.ble y 174 then (bif Nat.ble y 170 then (bif Nat.ble y 168 then (bif Nat.ble y 167 then (p167 pc) else (p168 pc)) else (bif Nat.ble y 169 then (p169 pc) else (p170 pc))) else (bif Nat.ble y 172 then (bif Nat.ble y 171 then (p171 pc) else (p172 pc)) else (bif Nat.ble y 173 then (p173 pc) else (p174 pc)))) else (bif Nat.ble y 178 then (bif Nat.ble y 176 then (bif Nat.ble y 175 then (p175 pc) else (p176 pc)) else (bif Nat.ble y 177 then (p177 pc) else (p178 pc))) else (bif Nat.ble y 180 then (bif Nat.ble y 179 then (p179 pc) else (p180 pc)) else (bif Nat.ble y 181 then (p181 pc) else (bif Nat.ble y 182 then (p182 pc) else (p183 pc)))))) else (bif Nat.ble y 191 then (bif Nat.ble y 187 then (bif Nat.ble y 185 then (bif Nat.ble y 184 then (p184 pc) else (p185 pc)) else (bif Nat.ble y 186 then (p186 pc) else (p187 pc))) else (bif Nat.ble y 189 then (bif Nat.ble y 188 then (p188 pc) else (p189 pc)) else (bif Nat.ble y 190 then (p190 pc) else (p191 pc)))) else (bif Nat.ble y 195 then (bif Nat.ble y 193 then (bif Nat.ble y 192 then (p192 pc) else (p193 pc)) else (bif Nat.ble y 194 then (p194 pc) else (p195 pc))) else (bif Nat.ble y 197 then (bif Nat.ble y 196 then (p196 pc) else (p197 pc)) else (bif Nat.ble y 198 then (p198 pc) else (bif Nat.ble y 199 then (p199 pc) else (p200 pc)))))))) else (bif Nat.ble y 234 then (bif Nat.ble y 217 then (bif Nat.ble y 208 then (bif Nat.ble y 204 then (bif Nat.ble y 202 then (bif Nat.ble y 201 then (p201 pc) else (p202 pc)) else (bif Nat.ble y 203 then (p203 pc) else (p204 pc))) else (bif Nat.ble y 206 then (bif Nat.ble y 205 then (p205 pc) else (p206 pc)) else (bif Nat.ble y 207 then (p207 pc) else (p208 pc)))) else (bif Nat.ble y 212 then (bif Nat.ble y 210 then (bif Nat.ble y 209 then (p209 pc) else (p210 pc)) else (bif Nat.ble y 211 then (p211 pc) else (p212 pc))) else (bif Nat.ble y 214 then (bif Nat.ble y 213 then (p213 pc) else (p214 pc)) else (bif Nat.ble y 215 then (p215 pc) else (bif Nat.ble y 216 then (p216 pc) else (p217 pc)))))) else (bif Nat.ble y 225 then (bif Nat.ble y 221 then (bif Nat.ble y 219 then (bif Nat.ble y 218 then (p218 pc) else (p219 pc)) else (bif Nat.ble y 220 then (p220 pc) else (p221 pc))) else (bif Nat.ble y 223 then (bif Nat.ble y 222 then (p222 pc) else (p223 pc)) else (bif Nat.ble y 224 then (p224 pc) else (p225 pc)))) else (bif Nat.ble y 229 then (bif Nat.ble y 227 then (bif Nat.ble y 226 then (p226 pc) else (p227 pc)) else (bif Nat.ble y 228 then (p228 pc) else (p229 pc))) else (bif Nat.ble y 231 then (bif Nat.ble y 230 then (p230 pc) else (p231 pc)) else (bif Nat.ble y 232 then (p232 pc) else (bif Nat.ble y 233 then (p233 pc) else (p234 pc))))))) else (bif Nat.ble y 251 then (bif Nat.ble y 242 then (bif Nat.ble y 238 then (bif Nat.ble y 236 then (bif Nat.ble y 235 then (p235 pc) else (p236 pc)) else (bif Nat.ble y 237 then (p237 pc) else (p238 pc))) else (bif Nat.ble y 240 then (bif Nat.ble y 239 then (p239 pc) else (p240 pc)) else (bif Nat.ble y 241 then (p241 pc) else (p242 pc)))) else (bif Nat.ble y 246 then (bif Nat.ble y 244 then (bif Nat.ble y 243 then (p243 pc) else (p244 pc)) else (bif Nat.ble y 245 then (p245 pc) else (p246 pc))) else (bif Nat.ble y 248 then (bif Nat.ble y 247 then (p247 pc) else (p248 pc)) else (bif Nat.ble y 249 then (p249 pc) else (bif Nat.ble y 250 then (p250 pc) else (p251 pc)))))) else (bif Nat.ble y 259 then (bif Nat.ble y 255 then (bif Nat.ble y 253 then (bif Nat.ble y 252 then (p252 pc) else (p253 pc)) else (bif Nat.ble y 254 then (p254 pc) else (p255 pc))) else (bif Nat.ble y 257 then (bif Nat.ble y 256 then (p256 pc) else (p257 pc)) else (bif Nat.ble y 258 then (p258 pc) else (p259 pc)))) else (bif Nat.ble y 263 then (bif Nat.ble y 261 then (bif Nat.ble y 260 then (p260 pc) else (p261 pc)) else (bif Nat.ble y 262 then (p262 pc) else (p263 pc))) else (bif Nat.ble y 265 then (bif Nat.ble y 264 then (p264 pc) else (p265 pc)) else (bif Nat.ble y 266 then (p266 pc) else (bif Nat.ble y 267 then (p267 pc) else (p268 pc))))))))))
def lenL : List Nat := [54, 34, 33, 13, 134, 30, 42, 11, 15, 29, 21, 24, 16, 40, 77, 8, 11, 141, 102, 52, 25, 19, 15, 59, 22, 26, 30, 44, 35, 92, 104, 18, 74, 33, 59, 7, 37, 37, 17, 11, 11, 33, 22, 33, 18, 29, 106, 24, 24, 104, 191, 30, 15, 9, 75, 26, 86, 31, 132, 31, 15, 105, 72, 49, 62, 6, 40, 93, 131, 19, 32, 32, 43, 90, 42, 110, 37, 9, 46, 121, 43, 10, 44, 184, 18, 185, 24, 51, 61, 32, 40, 36, 78, 24, 29, 45, 0, 0, 30, 86, 0, 0, 0, 0, 0, 0, 30, 0, 0, 63, 7, 116, 86, 17, 34, 98, 24, 69, 31, 96, 38, 128, 31, 64, 76, 133, 8, 53, 44, 66, 42, 67, 67, 85, 20, 49, 55, 111, 29, 33, 0, 0, 0, 0, 0, 0, 0, 0, 0, 0, 0, 0, 0, 0, 0, 0, 0, 0, 0, 0, 0, 24, 126, 38, 38, 30, 38, 7, 8, 8, 9, 5, 39, 45, 55, 39, 59, 19, 19, 22, 5, 5, 7, 98, 44, 47, 121, 33, 25, 33, 38, 27, 21, 51, 35, 8, 4, 19, 21, 7, 131, 44, 77, 279, 0, 0, 0, 0, 0, 0, 0, 0, 0, 0, 0, 0, 0, 0, 0, 0, 0, 0, 0, 0, 0, 0, 0, 0, 0, 0, 0, 0, 0, 0, 0, 0, 0, 0, 0, 0, 0, 0, 0, 0, 0, 0, 0, 0, 0, 0, 0, 0, 0, 0, 0, 0, 0, 0, 0, 0, 0, 0, 0, 0, 0, 0, 0, 0, 917]
def XF : PF := (fun c => nfL.getD c 0, fun c k => (ftL.getD c []).getD k 0)
abbrev GG : PG := (prog, fun y => rkL.getD y 0, fun y => mxL.getD y 0, fun y => rcL.getD y 99, XF)
end
section
def lenOf : ClassFile.Instr → Nat
  | .bipush _ => 2
  | .ldc _ => 2
  | .iload _ => 2
  | .lload _ => 2
  | .aload _ => 2
  | .istore _ => 2
  | .lstore _ => 2
  | .astore _ => 2
  | .newarray _ => 2
  | .sipush _ => 3
  | .ldc_w _ => 3
  | .ldc2_w _ => 3
  | .iinc _ _ => 3
  | .ifCond _ _ => 3
  | .if_icmp _ _ => 3
  | .ifnull _ => 3
  | .ifnonnull _ => 3
  | .goto _ => 3
  | .getfield _ => 3
  | .putfield _ => 3
  | .getstatic _ => 3
  | .invokevirtual _ => 3
  | .invokespecial _ => 3
  | .invokestatic _ => 3
  | .new _ => 3
  | .anewarray _ => 3
  | .checkcast _ => 3
  | .multianewarray _ _ => 4
  | _ => 1
def mNm (y : Nat) : MethodName := (mtdL.getD y (⟨"", "", ""⟩, ByteArray.empty, 0, none)).1
def mCd (y : Nat) : ByteArray := bif Nat.beq y m_law then code else (mtdL.getD y (⟨"", "", ""⟩, ByteArray.empty, 0, none)).2.1
def isIni (y : Nat) : Bool := (mNm y).name == "<init>"
def stOK (y a : Nat) : Bool := Nat.blt a (mxL.getD y 0) && (Nat.beq a 0 || !(lngT.contains (y, a - 1)))
def resOK (y pc : Nat) (e : PE) : Bool :=
  let o := mcL.getD y 99
  match e.1 with
  | .iconst n => decide (Int32.ofInt n = e.2.2.2.1)
  | .bipush n => decide ((Int8.ofInt n).toInt32 = e.2.2.2.1)
  | .sipush n => decide ((Int16.ofInt n).toInt32 = e.2.2.2.1)
  | .ldc i => match e.2.1 with
    | 0 => kTab.contains (o, i, e.2.2.2.1)
    | _ + 1 => sTab.contains (o, i, e.2.2.1)
  | .ldc_w i => match e.2.1 with
    | 0 => kTab.contains (o, i, e.2.2.2.1)
    | _ + 1 => sTab.contains (o, i, e.2.2.1)
  | .lconst n => decide (Int64.ofNat n.val = lTab e.2.1)
  | .ldc2_w i => klTab.contains (o, i, e.2.1)
  | .iload_n k => Nat.beq k.val e.2.1
  | .iload k => Nat.beq k e.2.1
  | .lload_n k => Nat.beq k.val e.2.1
  | .lload k => Nat.beq k e.2.1
  | .aload_n k => Nat.beq k.val e.2.1
  | .aload k => Nat.beq k e.2.1
  | .istore_n k => Nat.beq k.val e.2.1 && stOK y e.2.1
  | .istore k => Nat.beq k e.2.1 && stOK y e.2.1
  | .astore_n k => Nat.beq k.val e.2.1 && stOK y e.2.1
  | .astore k => Nat.beq k e.2.1 && stOK y e.2.1
  | .lstore_n k => Nat.beq k.val e.2.1 && stOK y e.2.1 && Nat.blt (e.2.1 + 1) (mxL.getD y 0) && lngT.contains (y, e.2.1)
  | .lstore k => Nat.beq k e.2.1 && stOK y e.2.1 && Nat.blt (e.2.1 + 1) (mxL.getD y 0) && lngT.contains (y, e.2.1)
  | .iinc k n => Nat.beq k e.2.1 && stOK y e.2.1 && decide (Int32.ofInt n = e.2.2.2.1)
  | .ifCond _ off => decide ((pc : Int) + off = (e.2.1 : Int))
  | .if_icmp _ off => decide ((pc : Int) + off = (e.2.1 : Int))
  | .ifnull off => decide ((pc : Int) + off = (e.2.1 : Int))
  | .ifnonnull off => decide ((pc : Int) + off = (e.2.1 : Int))
  | .goto off => decide ((pc : Int) + off = (e.2.1 : Int))
  | .tableswitch d lo hi offs => decide ((pc : Int) + d = (e.2.1 : Int)) && decide (e.2.2.2.1.toInt = lo) && decide (lo + (e.2.2.2.2.length : Int) = hi + 1) && decide (offs.toList.map (fun q => (pc : Int) + q) = e.2.2.2.2.map (fun (t : Nat) => Int.ofNat t)) && decide (0 ≤ lo) && decide (hi < 1000)
  | .getfield i => fTab.contains (o, i, e.2.1, e.2.2.1) && Nat.blt e.2.2.1 (nfL.getD e.2.1 0) && Nat.blt e.2.1 14
  | .putfield i => fTab.contains (o, i, e.2.1, e.2.2.1) && Nat.blt e.2.2.1 (nfL.getD e.2.1 0) && (Nat.blt e.2.1 13 || (Nat.beq e.2.1 13 && !(e.2.2.2.2.isEmpty))) && (!((fnL.getD e.2.1 []).getD e.2.2.1 true) || (isIni y && Nat.beq o e.2.1))
  | .getstatic i => match e.2.1 with
    | 0 => gsTab.contains (o, i, 0) && decide (e.2.2.2.1 = 1)
    | 1 => gsTab.contains (o, i, 1) && Nat.beq e.2.2.1 142
    | _ => gsTab.contains (o, i, 2) && Nat.beq e.2.2.1 143
  | .newarray t => match e.2.1 with
    | 0 => decide (t = .int)
    | _ + 1 => decide (t = .byte)
  | .multianewarray i n => Nat.beq o 18 && Nat.beq i 37 && Nat.beq n 2
  | .anewarray i => nTab.contains (o, i, eCl e.2.1) && Nat.ble 22 e.2.1 && Nat.blt e.2.1 27
  | .new i => nTab.contains (o, i, e.2.1) && Nat.blt e.2.1 14
  | .invokespecial i => match e.2.2.1 with
    | 0 => oiTab.contains (o, i)
    | n + 1 => mTab.contains (o, i, e.2.1) && Nat.beq (naL.getD e.2.1 0) (n + 1) && !(stL.getD e.2.1 true) && (isIni e.2.1 || (!(isIni e.2.1) && Nat.beq o 12 && Nat.beq (mcL.getD e.2.1 99) 19))
  | .invokevirtual i => match e.2.2.2.2 with
    | [_] => Nat.beq o 17 && Nat.beq i 316
    | _ :: _ :: _ => Nat.beq o 17 && Nat.beq i 310
    | [] => Nat.beq (naL.getD e.2.1 0) (e.2.2.1 + 1) && !(stL.getD e.2.1 true) && !(isIni e.2.1) && ((mTab.contains (o, i, e.2.1) && Nat.blt (mcL.getD e.2.1 99) 14) || ((mTab.contains (o, i, e.2.1) && Nat.beq (mcL.getD e.2.1 99) 19 && !(Nat.beq o 12)) || uTab.contains (o, i, e.2.1)))
  | .invokestatic i => match e.2.2.1 with
    | 9 => acTab.contains (o, i)
    | 10 => acTab.contains (o, i)
    | 8 => ciTab.contains (o, i)
    | n => mTab.contains (o, i, e.2.1) && Nat.beq (naL.getD e.2.1 0) n && stL.getD e.2.1 false
  | .iaload => Nat.beq e.2.1 20 || Nat.beq e.2.1 19
  | .aaload => Nat.beq e.2.1 0 || (Nat.beq e.2.1 26 || Nat.beq e.2.1 27)
  | .aastore => Nat.beq e.2.1 0 || Nat.beq e.2.1 26
  | .lreturn => Nat.beq (rkL.getD y 9) 5
  | .areturn => Nat.beq (rkL.getD y 9) 6
  | .return_ => Nat.beq (rkL.getD y 9) 0
  | .checkcast i => match e.2.1 with
    | 0 => Nat.beq o 17 && Nat.beq i 317
    | _ + 1 => Nat.beq o 17 && Nat.beq i 311
  | _ => true
def okAt (y pc : Nat) : Bool := match prog y pc with
  | none => true
  | some e => match decode (mCd y) pc with
    | .ok (i, n) => decide (i = e.1) && (Nat.beq n (lenOf i) || (match i with | .tableswitch _ _ _ _ => true | _ => false)) && resOK y pc e
    | _ => false
def okR (lo n y : Nat) : Bool := (List.range' lo n).all (okAt y)
end
section
set_option maxRecDepth 100000 in
theorem ck_0 : [(0, 0, 54), (1, 0, 34), (2, 0, 33), (3, 0, 13), (4, 0, 134), (5, 0, 30), (6, 0, 42), (7, 0, 11), (8, 0, 15), (9, 0, 29), (10, 0, 21), (11, 0, 24), (12, 0, 16), (13, 0, 40), (14, 0, 77), (15, 0, 8), (16, 0, 11), (17, 0, 141), (18, 0, 102), (19, 0, 52), (20, 0, 25), (21, 0, 19), (22, 0, 15), (23, 0, 59), (24, 0, 22), (25, 0, 26), (26, 0, 30), (27, 0, 44), (28, 0, 35), (29, 0, 92), (30, 0, 104), (31, 0, 18), (32, 0, 74), (33, 0, 33), (34, 0, 59), (35, 0, 7), (36, 0, 37), (37, 0, 37), (38, 0, 17), (39, 0, 11), (40, 0, 11), (41, 0, 33), (42, 0, 22), (43, 0, 33), (44, 0, 18), (45, 0, 29), (46, 0, 106), (47, 0, 24), (48, 0, 24), (49, 0, 104), (50, 0, 191), (51, 0, 30), (52, 0, 15), (53, 0, 9), (54, 0, 75), (55, 0, 26), (56, 0, 86), (57, 0, 31), (58, 0, 132), (59, 0, 31), (60, 0, 15)].all (fun t => okR t.2.1 t.2.2 t.1) = true := by decide +kernel
set_option maxRecDepth 100000 in
theorem ck_1 : [(61, 0, 105), (62, 0, 72), (63, 0, 49), (64, 0, 62), (65, 0, 6), (66, 0, 40), (67, 0, 93), (68, 0, 131), (69, 0, 19), (70, 0, 32), (71, 0, 32), (72, 0, 43), (73, 0, 90), (74, 0, 42), (75, 0, 110), (76, 0, 37), (77, 0, 9), (78, 0, 46), (79, 0, 121), (80, 0, 43), (81, 0, 10), (82, 0, 44), (83, 0, 184), (84, 0, 18), (85, 0, 185), (86, 0, 24), (87, 0, 51), (88, 0, 61), (89, 0, 32), (90, 0, 40), (91, 0, 36), (92, 0, 78), (93, 0, 24), (94, 0, 29), (95, 0, 45), (96, 0, 0), (97, 0, 0), (98, 0, 30), (99, 0, 86), (100, 0, 0), (101, 0, 0), (102, 0, 0), (103, 0, 0), (104, 0, 0), (105, 0, 0), (106, 0, 30), (107, 0, 0), (108, 0, 0), (109, 0, 63), (110, 0, 7), (111, 0, 116)].all (fun t => okR t.2.1 t.2.2 t.1) = true := by decide +kernel
set_option maxRecDepth 100000 in
theorem ck_2 : [(112, 0, 86), (113, 0, 17), (114, 0, 34), (115, 0, 98), (116, 0, 24), (117, 0, 69), (118, 0, 31), (119, 0, 96), (120, 0, 38), (121, 0, 128), (122, 0, 31), (123, 0, 64), (124, 0, 76), (125, 0, 133), (126, 0, 8), (127, 0, 53), (128, 0, 44), (129, 0, 66), (130, 0, 42), (131, 0, 67), (132, 0, 67), (133, 0, 85), (134, 0, 20), (135, 0, 49), (136, 0, 55), (137, 0, 111), (138, 0, 29), (139, 0, 33), (140, 0, 0), (141, 0, 0), (142, 0, 0), (143, 0, 0), (144, 0, 0), (145, 0, 0), (146, 0, 0), (147, 0, 0), (148, 0, 0), (149, 0, 0), (150, 0, 0), (151, 0, 0), (152, 0, 0), (153, 0, 0), (154, 0, 0), (155, 0, 0), (156, 0, 0), (157, 0, 0), (158, 0, 0), (159, 0, 0), (160, 0, 0), (161, 0, 24), (162, 0, 126), (163, 0, 38), (164, 0, 38), (165, 0, 30), (166, 0, 38), (167, 0, 7), (168, 0, 8), (169, 0, 8), (170, 0, 9), (171, 0, 5), (172, 0, 39), (173, 0, 45), (174, 0, 55), (175, 0, 39), (176, 0, 59), (177, 0, 19), (178, 0, 19), (179, 0, 22), (180, 0, 5), (181, 0, 5), (182, 0, 7), (183, 0, 98), (184, 0, 44), (185, 0, 47), (186, 0, 121), (187, 0, 33), (188, 0, 25), (189, 0, 33), (190, 0, 38), (191, 0, 27), (192, 0, 21)].all (fun t => okR t.2.1 t.2.2 t.1) = true := by decide +kernel
set_option maxRecDepth 100000 in
theorem ck_3 : [(193, 0, 51), (194, 0, 35), (195, 0, 8), (196, 0, 4), (197, 0, 19), (198, 0, 21), (199, 0, 7), (200, 0, 131), (201, 0, 44), (202, 0, 77), (203, 0, 279), (204, 0, 0), (205, 0, 0), (206, 0, 0), (207, 0, 0), (208, 0, 0), (209, 0, 0), (210, 0, 0), (211, 0, 0), (212, 0, 0), (213, 0, 0), (214, 0, 0), (215, 0, 0), (216, 0, 0), (217, 0, 0), (218, 0, 0), (219, 0, 0), (220, 0, 0), (221, 0, 0), (222, 0, 0), (223, 0, 0), (224, 0, 0), (225, 0, 0), (226, 0, 0), (227, 0, 0), (228, 0, 0), (229, 0, 0), (230, 0, 0), (231, 0, 0), (232, 0, 0), (233, 0, 0), (234, 0, 0), (235, 0, 0), (236, 0, 0), (237, 0, 0), (238, 0, 0), (239, 0, 0), (240, 0, 0), (241, 0, 0), (242, 0, 0), (243, 0, 0), (244, 0, 0), (245, 0, 0), (246, 0, 0), (247, 0, 0), (248, 0, 0), (249, 0, 0), (250, 0, 0), (251, 0, 0), (252, 0, 0), (253, 0, 0), (254, 0, 0), (255, 0, 0), (256, 0, 0), (257, 0, 0), (258, 0, 0), (259, 0, 0), (260, 0, 0), (261, 0, 0), (262, 0, 0), (263, 0, 0), (264, 0, 0), (265, 0, 0), (266, 0, 0), (267, 0, 0)].all (fun t => okR t.2.1 t.2.2 t.1) = true := by decide +kernel
set_option maxRecDepth 100000 in
theorem ck_4 : [(268, 0, 539)].all (fun t => okR t.2.1 t.2.2 t.1) = true := by decide +kernel
set_option maxRecDepth 100000 in
theorem ck_5 : [(268, 539, 221)].all (fun t => okR t.2.1 t.2.2 t.1) = true := by decide +kernel
end
section
set_option maxRecDepth 100000 in
theorem ck_6 : [(268, 760, 157)].all (fun t => okR t.2.1 t.2.2 t.1) = true := by decide +kernel
end
section
theorem ck_R {y lo n : Nat} (h : okR lo n y = true) {pc : Nat} (h1 : lo ≤ pc) (h2 : pc < lo + n) : okAt y pc = true := List.all_eq_true.mp h pc (List.mem_range'_1.mpr ⟨h1, h2⟩)
def ckL : List (List (Nat × Nat × Nat)) := [
  [(0, 0, 54), (1, 0, 34), (2, 0, 33), (3, 0, 13), (4, 0, 134), (5, 0, 30), (6, 0, 42), (7, 0, 11), (8, 0, 15), (9, 0, 29), (10, 0, 21), (11, 0, 24), (12, 0, 16), (13, 0, 40), (14, 0, 77), (15, 0, 8), (16, 0, 11), (17, 0, 141), (18, 0, 102), (19, 0, 52), (20, 0, 25), (21, 0, 19), (22, 0, 15), (23, 0, 59), (24, 0, 22), (25, 0, 26), (26, 0, 30), (27, 0, 44), (28, 0, 35), (29, 0, 92), (30, 0, 104), (31, 0, 18), (32, 0, 74), (33, 0, 33), (34, 0, 59), (35, 0, 7), (36, 0, 37), (37, 0, 37), (38, 0, 17), (39, 0, 11), (40, 0, 11), (41, 0, 33), (42, 0, 22), (43, 0, 33), (44, 0, 18), (45, 0, 29), (46, 0, 106), (47, 0, 24), (48, 0, 24), (49, 0, 104), (50, 0, 191), (51, 0, 30), (52, 0, 15), (53, 0, 9), (54, 0, 75), (55, 0, 26), (56, 0, 86), (57, 0, 31), (58, 0, 132), (59, 0, 31), (60, 0, 15)],
  [(61, 0, 105), (62, 0, 72), (63, 0, 49), (64, 0, 62), (65, 0, 6), (66, 0, 40), (67, 0, 93), (68, 0, 131), (69, 0, 19), (70, 0, 32), (71, 0, 32), (72, 0, 43), (73, 0, 90), (74, 0, 42), (75, 0, 110), (76, 0, 37), (77, 0, 9), (78, 0, 46), (79, 0, 121), (80, 0, 43), (81, 0, 10), (82, 0, 44), (83, 0, 184), (84, 0, 18), (85, 0, 185), (86, 0, 24), (87, 0, 51), (88, 0, 61), (89, 0, 32), (90, 0, 40), (91, 0, 36), (92, 0, 78), (93, 0, 24), (94, 0, 29), (95, 0, 45), (96, 0, 0), (97, 0, 0), (98, 0, 30), (99, 0, 86), (100, 0, 0), (101, 0, 0), (102, 0, 0), (103, 0, 0), (104, 0, 0), (105, 0, 0), (106, 0, 30), (107, 0, 0), (108, 0, 0), (109, 0, 63), (110, 0, 7), (111, 0, 116)],
  [(112, 0, 86), (113, 0, 17), (114, 0, 34), (115, 0, 98), (116, 0, 24), (117, 0, 69), (118, 0, 31), (119, 0, 96), (120, 0, 38), (121, 0, 128), (122, 0, 31), (123, 0, 64), (124, 0, 76), (125, 0, 133), (126, 0, 8), (127, 0, 53), (128, 0, 44), (129, 0, 66), (130, 0, 42), (131, 0, 67), (132, 0, 67), (133, 0, 85), (134, 0, 20), (135, 0, 49), (136, 0, 55), (137, 0, 111), (138, 0, 29), (139, 0, 33), (140, 0, 0), (141, 0, 0), (142, 0, 0), (143, 0, 0), (144, 0, 0), (145, 0, 0), (146, 0, 0), (147, 0, 0), (148, 0, 0), (149, 0, 0), (150, 0, 0), (151, 0, 0), (152, 0, 0), (153, 0, 0), (154, 0, 0), (155, 0, 0), (156, 0, 0), (157, 0, 0), (158, 0, 0), (159, 0, 0), (160, 0, 0), (161, 0, 24), (162, 0, 126), (163, 0, 38), (164, 0, 38), (165, 0, 30), (166, 0, 38), (167, 0, 7), (168, 0, 8), (169, 0, 8), (170, 0, 9), (171, 0, 5), (172, 0, 39), (173, 0, 45), (174, 0, 55), (175, 0, 39), (176, 0, 59), (177, 0, 19), (178, 0, 19), (179, 0, 22), (180, 0, 5), (181, 0, 5), (182, 0, 7), (183, 0, 98), (184, 0, 44), (185, 0, 47), (186, 0, 121), (187, 0, 33), (188, 0, 25), (189, 0, 33), (190, 0, 38), (191, 0, 27), (192, 0, 21)],
  [(193, 0, 51), (194, 0, 35), (195, 0, 8), (196, 0, 4), (197, 0, 19), (198, 0, 21), (199, 0, 7), (200, 0, 131), (201, 0, 44), (202, 0, 77), (203, 0, 279), (204, 0, 0), (205, 0, 0), (206, 0, 0), (207, 0, 0), (208, 0, 0), (209, 0, 0), (210, 0, 0), (211, 0, 0), (212, 0, 0), (213, 0, 0), (214, 0, 0), (215, 0, 0), (216, 0, 0), (217, 0, 0), (218, 0, 0), (219, 0, 0), (220, 0, 0), (221, 0, 0), (222, 0, 0), (223, 0, 0), (224, 0, 0), (225, 0, 0), (226, 0, 0), (227, 0, 0), (228, 0, 0), (229, 0, 0), (230, 0, 0), (231, 0, 0), (232, 0, 0), (233, 0, 0), (234, 0, 0), (235, 0, 0), (236, 0, 0), (237, 0, 0), (238, 0, 0), (239, 0, 0), (240, 0, 0), (241, 0, 0), (242, 0, 0), (243, 0, 0), (244, 0, 0), (245, 0, 0), (246, 0, 0), (247, 0, 0), (248, 0, 0), (249, 0, 0), (250, 0, 0), (251, 0, 0), (252, 0, 0), (253, 0, 0), (254, 0, 0), (255, 0, 0), (256, 0, 0), (257, 0, 0), (258, 0, 0), (259, 0, 0), (260, 0, 0), (261, 0, 0), (262, 0, 0), (263, 0, 0), (264, 0, 0), (265, 0, 0), (266, 0, 0), (267, 0, 0)],
  [(268, 0, 539)],
  [(268, 539, 221)],
  [(268, 760, 157)]]
theorem ck_all : ∀ g ∈ ckL, g.all (fun t => okR t.2.1 t.2.2 t.1) = true := by
  unfold ckL
  simp only [List.forall_mem_cons, List.not_mem_nil, false_imp_iff, implies_true, and_true]
  exact ⟨ck_0, ck_1, ck_2, ck_3, ck_4, ck_5, ck_6⟩
def ckF : List (Nat × Nat × Nat) := ckL.flatten
theorem ck_F {t : Nat × Nat × Nat} (h : t ∈ ckF) : okR t.2.1 t.2.2 t.1 = true := by
  obtain ⟨g, hg, ht⟩ := List.mem_flatten.mp h
  exact List.all_eq_true.mp (ck_all g hg) t ht
def cvR : List (Nat × Nat × Nat) → Nat → Nat → Bool
  | [], s, L => Nat.ble L s
  | t :: ts, s, L => Nat.beq t.2.1 s && cvR ts (s + t.2.2) L
theorem cvR_ok : ∀ (l : List (Nat × Nat × Nat)) (s L pc : Nat), cvR l s L = true → s ≤ pc → pc < L → ∃ t ∈ l, t.2.1 ≤ pc ∧ pc < t.2.1 + t.2.2
  | [], s, L, pc, h, h1, h2 => absurd (Nat.le_of_ble_eq_true h) (by omega)
  | t :: ts, s, L, pc, h, h1, h2 => by
    unfold cvR at h
    rw [Bool.and_eq_true] at h
    have e := Nat.eq_of_beq_eq_true h.1
    by_cases hc : pc < s + t.2.2
    · exact ⟨t, List.mem_cons_self, by omega, by omega⟩
    · obtain ⟨t', h3, h4⟩ := cvR_ok ts _ L pc h.2 (by omega) h2
      exact ⟨t', List.mem_cons_of_mem _ h3, h4⟩
set_option maxRecDepth 100000 in
theorem ck_cov : (List.range 269).all (fun y => cvR (ckF.filter (fun t => Nat.beq t.1 y)) 0 (lenT y)) = true := by decide +kernel
theorem ok_at {y pc : Nat} {e : PE} (h : prog y pc = some e) : okAt y pc = true := by
  have hp : pc < lenT y := by
    unfold prog at h
    cases hb : Nat.ble (lenT y) pc with
    | true => rw [hb] at h; cases h
    | false => exact Nat.not_le.mp (fun q => by rw [Nat.ble_eq_true_of_le q] at hb; cases hb)
  have hy : y < 269 := by
    refine Nat.not_le.mp fun q => ?_
    unfold lenT at hp
    rw [Nat.ble_eq_true_of_le q] at hp
    exact absurd hp (Nat.not_lt_zero pc)
  obtain ⟨t, ht, h1, h2⟩ := cvR_ok _ _ _ pc (List.all_eq_true.mp ck_cov y (List.mem_range.mpr hy)) (Nat.zero_le _) hp
  obtain ⟨ht1, ht2⟩ := List.mem_filter.mp ht
  have h3 := ck_F ht1
  rw [Nat.eq_of_beq_eq_true ht2] at h3
  exact ck_R h3 h1 h2
theorem ok_dec {y pc : Nat} {e : PE} (h : prog y pc = some e) : ∃ n, decode (mCd y) pc = .ok (e.1, n) ∧ (n = lenOf e.1 ∨ ∃ a b c d, e.1 = .tableswitch a b c d) ∧ resOK y pc e = true := by
  have h1 := ok_at h
  unfold okAt at h1
  rw [h] at h1
  dsimp only at h1
  split at h1
  case h_2 => cases h1
  case h_1 i n hd =>
    simp only [Bool.and_eq_true, decide_eq_true_eq, Bool.or_eq_true] at h1
    obtain ⟨⟨rfl, h2⟩, h3⟩ := h1
    refine ⟨n, hd, ?_, h3⟩
    rcases h2 with h2 | h2
    · exact Or.inl (Nat.eq_of_beq_eq_true h2)
    · refine Or.inr ?_
      split at h2
      · next q => exact ⟨_, _, _, _, q⟩
      · cases h2
end
section
theorem mem_p {big ws : List Cond} (ps : List Nat) (h : ws = ps.filterMap (fun i => big[i]?)) : ∀ w ∈ ws, w ∈ big := by
  intro w hw
  rw [h] at hw
  obtain ⟨i, -, hi⟩ := List.mem_filterMap.mp hw
  exact List.mem_of_getElem? hi
theorem zip_p {α : Type} {f : α → Bool → Cond} {big : List Cond} : ∀ (l : List α) (bs : List Bool), l.length = bs.length → (∀ w ∈ List.zipWith f l bs, w ∈ big) → ∀ e ∈ l, ∃ b, f e b ∈ big
  | [], _, _, _, _, he => absurd he List.not_mem_nil
  | _ :: _, [], hl, _, _, _ => absurd hl (by simp)
  | a :: l, b :: bs, hl, h, e, he => by
    rcases List.mem_cons.mp he with rfl | he
    · exact ⟨b, h _ (by simp)⟩
    · exact zip_p l bs (by simpa using hl) (fun w hw => h w (by simp [hw])) e he
theorem zip_p2 {α : Type} {f : α → Bool → Cond} {big : List Cond} {p : α → Bool → Bool} : ∀ (l : List α) (bs : List Bool), l.length = bs.length → (∀ w ∈ List.zipWith f l bs, w ∈ big) → (List.zipWith p l bs).all id = true → ∀ e ∈ l, ∃ b, f e b ∈ big ∧ p e b = true
  | [], _, _, _, _, _, he => absurd he List.not_mem_nil
  | _ :: _, [], hl, _, _, _, _ => absurd hl (by simp)
  | a :: l, b :: bs, hl, h, h2, e, he => by
    rw [List.zipWith_cons_cons, List.all_cons, Bool.and_eq_true] at h2
    rcases List.mem_cons.mp he with rfl | he
    · exact ⟨b, h _ (by simp), h2.1⟩
    · exact zip_p2 l bs (by simpa using hl) (fun w hw => h w (by simp [hw])) h2.2 e he
theorem map_p {α : Type} {f : α → Cond} {big : List Cond} {l : List α} (h : ∀ w ∈ l.map f, w ∈ big) : ∀ e ∈ l, f e ∈ big := fun e he => h _ (List.mem_map_of_mem he)
def clOf (c : Nat) : vw_C := vwCl.getD c ("", TX0, 0)
/-- the class that a field is found in -/
def fCl (c k : Nat) : String := ((clOf c).2.1 k).1
def fNm (c k : Nat) : String := ((clOf c).2.1 k).2.1
def fDs (c k : Nat) : String := ((clOf c).2.1 k).2.2.1
def fWd (e : Nat × Nat × Nat × Nat) (b : Bool) : Cond := match b with
  | true => .fieldLinkNest (cNm e.1) e.2.1 (fCl e.2.2.1 e.2.2.2) (fNm e.2.2.1 e.2.2.2) (fDs e.2.2.1 e.2.2.2) "StockEvents"
  | false => .fieldLink (cNm e.1) e.2.1 (fCl e.2.2.1 e.2.2.2) (fNm e.2.2.1 e.2.2.2) (fDs e.2.2.1 e.2.2.2)
set_option maxRecDepth 100000 in
theorem w_fT2 : ∀ e ∈ fTab, ∃ b, fWd e b ∈ lw_tbl ∧ (!b || !(Nat.beq e.1 e.2.2.1 || Nat.beq e.2.2.1 13)) = true := zip_p2 (p := fun e b => !b || !(Nat.beq e.1 e.2.2.1 || Nat.beq e.2.2.1 13)) fTab [false, false, false, false, false, true, false, false, false, false, false, false, false, true, false, true, false, true, false, true, false, false, false, false, true, true, false, false, false, false, true, false, true, true, false, false, false, false, true, false, true, false, true, false, true, false, true, false, false, true, false, true, false, true, false, false, false, true, false, false, true, false, false, false, false, false, false, true, true, true, false, true, true, false, true, true, true, false, false, false, false, false, false, false, false, true, false, true, true, false, false, false, true, true, true, true, true, false, false, false, false, false, false] (by decide +kernel) (mem_p [64, 65, 66, 67, 68, 69, 70, 71, 103, 107, 108, 109, 110, 111, 112, 113, 114, 115, 116, 117, 145, 146, 147, 148, 149, 150, 183, 184, 185, 186, 187, 188, 189, 190, 208, 209, 210, 227, 228, 229, 230, 231, 232, 233, 234, 235, 236, 237, 238, 239, 240, 241, 242, 243, 244, 245, 246, 247, 248, 249, 250, 282, 283, 284, 285, 286, 378, 379, 380, 381, 382, 383, 384, 385, 386, 387, 388, 389, 519, 520, 761, 762, 763, 764, 765, 766, 767, 768, 769, 879, 880, 881, 882, 883, 884, 885, 886, 1006, 1007, 1008, 1009, 1176, 1177] (by decide +kernel)) (by decide +kernel)
theorem w_fT : ∀ e ∈ fTab, ∃ b, fWd e b ∈ lw_tbl := fun e he => (w_fT2 e he).imp (fun _ h => h.1)
def mWd (e : Nat × Nat × Nat) (b : Bool) : Cond := match b with
  | true => .methodLinkNest (cNm e.1) e.2.1 (mNm e.2.2) "StockEvents"
  | false => .methodLink (cNm e.1) e.2.1 (mNm e.2.2)
set_option maxRecDepth 100000 in
theorem w_mT : ∀ e ∈ mTab, ∃ b, mWd e b ∈ lw_tbl := zip_p mTab [false, false, false, false, false, false, false, false, false, false, false, false, false, false, false, false, false, false, false, false, false, false, false, false, false, false, false, false, false, false, false, false, false, false, false, false, false, false, false, false, false, false, false, false, false, false, false, false, false, false, false, false, false, false, false, false, false, false, false, false, false, false, false, false, false, false, false, false, false, false, false, false, false, false, false, false, false, false, false, false, false, false, false, false, false, false, false, false, false, false, false, false, false, false, false, false, false, true, false, false, false, false, false, false, false, false, false, false, false, false, false, false, false, false, false, false, false, false, false, false, false, false, false, false, false, false, false, false, false, false, false, false, false, false, false, false, false, false, false, false, false, false, false, false, false, false, false, false, false, false, false, false, false, false, false, false, false, false, false, false, false, false, false, false, false, false, false, false, false, false, false, false, false, false, false, false, false, false, false, false, false, false, false, false, false, false, false, false, false, false, false, false, false, false, false, false, false, false, false, false, false, false, false, false, false, false, false, false, false, false, false, false, false, false, false, false, false, false] (by decide +kernel) (mem_p [51, 59, 91, 99, 135, 141, 163, 166, 173, 177, 204, 222, 226, 298, 302, 305, 308, 312, 317, 321, 325, 326, 330, 334, 364, 368, 374, 399, 403, 407, 411, 415, 419, 422, 426, 430, 434, 438, 442, 443, 446, 449, 452, 455, 493, 501, 511, 515, 527, 531, 535, 539, 543, 547, 551, 555, 559, 563, 567, 571, 575, 576, 580, 584, 588, 592, 596, 600, 604, 608, 612, 613, 617, 621, 625, 630, 634, 638, 639, 640, 644, 645, 646, 647, 652, 653, 655, 656, 660, 664, 665, 669, 673, 674, 678, 682, 686, 690, 691, 695, 699, 702, 705, 706, 710, 711, 715, 716, 717, 721, 725, 727, 728, 729, 730, 734, 737, 743, 751, 757, 785, 789, 794, 795, 799, 803, 807, 811, 815, 816, 820, 824, 825, 826, 830, 834, 838, 844, 848, 849, 853, 857, 861, 862, 866, 875, 900, 904, 908, 912, 916, 917, 921, 922, 923, 924, 928, 932, 936, 940, 944, 948, 952, 955, 956, 957, 961, 965, 970, 973, 986, 991, 994, 1019, 1023, 1030, 1034, 1038, 1041, 1047, 1055, 1066, 1067, 1071, 1075, 1095, 1102, 1105, 1109, 1112, 1115, 1130, 1136, 1139, 1143, 1154, 1156, 1157, 1160, 1163, 1188, 1191, 1195, 1199, 1202, 1206, 1207, 1210, 1214, 1218, 1222, 1223, 1227, 1231, 1235, 1239, 1240, 1244] (by decide +kernel))
set_option maxRecDepth 100000 in
theorem w_uL : Cond.methodLink "java/lang/String" 549 ⟨"java/lang/AbstractStringBuilder", "length", "()I"⟩ ∈ lw_tbl := List.mem_of_getElem? (i := 1148) (by decide +kernel)
set_option maxRecDepth 100000 in
theorem w_nT : ∀ e ∈ nTab, Cond.classLink (cNm e.1) e.2.1 (cNm e.2.2) ∈ lw_tbl := map_p (f := fun (e : Nat × Nat × Nat) => Cond.classLink (cNm e.1) e.2.1 (cNm e.2.2)) (mem_p [49, 57, 89, 95, 97, 133, 139, 162, 164, 170, 202, 218, 220, 372, 499, 755, 793, 873, 976, 989, 1134] (by decide +kernel))
set_option maxRecDepth 100000 in
theorem w_kT : ∀ e ∈ kTab, Cond.constant (cNm e.1) e.2.1 e.2.2 ∈ lw_tbl := map_p (f := fun (e : Nat × Nat × Int32) => Cond.constant (cNm e.1) e.2.1 e.2.2) (mem_p [726, 841, 842, 843, 951, 1042, 1046, 1253] (by decide +kernel))
set_option maxRecDepth 100000 in
theorem w_oiT : ∀ e ∈ oiTab, Cond.methodLink (cNm e.1) e.2 Lib.objectInit ∈ lw_tbl := map_p (f := fun (e : Nat × Nat) => Cond.methodLink (cNm e.1) e.2 Lib.objectInit) (mem_p [54, 62, 94, 102, 138, 144, 169, 207, 377, 518, 760, 878, 997, 1142] (by decide +kernel))
set_option maxRecDepth 100000 in
theorem w_acT : ∀ e ∈ acTab, Cond.methodLink (cNm e.1) e.2 arraycopyName ∈ lw_tbl := map_p (f := fun (e : Nat × Nat) => Cond.methodLink (cNm e.1) e.2 arraycopyName) (mem_p [512, 629, 1099] (by decide +kernel))
abbrev nM : Nat := 268
def mMx (y : Nat) : Nat := (mtdL.getD y (⟨"", "", ""⟩, ByteArray.empty, 0, none)).2.2.1
def mRt (y : Nat) : Option FieldType := (mtdL.getD y (⟨"", "", ""⟩, ByteArray.empty, 0, none)).2.2.2
def cdM (y : Nat) : ByteArray := (mtdL.getD y (⟨"", "", ""⟩, ByteArray.empty, 0, none)).2.1
set_option maxRecDepth 100000 in
theorem w_code0 : (List.range nM).map (fun y => Cond.code (mNm y) (cdM y) (mMx y) (mRt y)) = [53, 61, 93, 101, 137, 143, 168, 176, 180, 206, 224, 960, 307, 964, 301, 304, 311, 315, 320, 324, 329, 333, 336, 367, 371, 376, 402, 406, 410, 414, 418, 421, 425, 429, 433, 437, 441, 445, 448, 451, 454, 457, 495, 503, 517, 530, 534, 538, 542, 546, 550, 554, 558, 562, 566, 570, 574, 579, 583, 587, 591, 595, 599, 603, 607, 611, 616, 620, 624, 628, 633, 637, 643, 650, 659, 663, 668, 672, 677, 681, 685, 689, 694, 698, 701, 704, 709, 1205, 1243, 1217, 1221, 1226, 1230, 1234, 1238, 714, 307, 307, 720, 724, 307, 307, 307, 307, 307, 307, 1213, 307, 307, 733, 736, 740, 746, 753, 759, 788, 792, 798, 802, 806, 810, 814, 819, 823, 829, 833, 837, 840, 847, 852, 856, 860, 865, 869, 877, 903, 907, 911, 915, 920, 307, 307, 307, 307, 307, 307, 307, 307, 307, 307, 307, 307, 307, 307, 307, 307, 307, 307, 307, 307, 307, 927, 931, 935, 939, 943, 947, 993, 1022, 1108, 1133, 1153, 996, 1025, 1111, 1033, 1037, 1059, 1070, 1074, 1147, 1155, 1138, 1141, 1098, 1114, 1117, 1049, 1159, 1162, 1165, 1040, 950, 954, 1197, 967, 972, 988, 1104, 1190, 975, 1201, 1193, 1209, 307, 307, 307, 307, 307, 307, 307, 307, 307, 307, 307, 307, 307, 307, 307, 307, 307, 307, 307, 307, 307, 307, 307, 307, 307, 307, 307, 307, 307, 307, 307, 307, 307, 307, 307, 307, 307, 307, 307, 307, 307, 307, 307, 307, 307, 307, 307, 307, 307, 307, 307, 307, 307, 307, 307, 307, 307, 307, 307, 307, 307, 307, 307, 307].filterMap (fun i => lw_tbl[i]?) := by rfl
theorem w_code {y : Nat} (h : y < nM) : Cond.code (mNm y) (cdM y) (mMx y) (mRt y) ∈ lw_tbl := map_p (f := fun y => Cond.code (mNm y) (cdM y) (mMx y) (mRt y)) (mem_p _ w_code0) y (List.mem_range.mpr h)
def stYs : List Nat := [10, 12, 15, 22, 31, 37, 38, 39, 40, 41, 42, 43, 84, 85, 96, 97, 100, 101, 102, 103, 104, 105, 107, 108, 110, 113, 127, 140, 141, 142, 143, 144, 145, 146, 147, 148, 149, 150, 151, 152, 153, 154, 155, 156, 157, 158, 159, 160, 185, 186, 187, 188, 189, 190, 191, 192, 193, 194, 195, 196, 197, 198, 199, 200, 201, 202, 203, 204, 205, 206, 207, 208, 209, 210, 211, 212, 213, 214, 215, 216, 217, 218, 219, 220, 221, 222, 223, 224, 225, 226, 227, 228, 229, 230, 231, 232, 233, 234, 235, 236, 237, 238, 239, 240, 241, 242, 243, 244, 245, 246, 247, 248, 249, 250, 251, 252, 253, 254, 255, 256, 257, 258, 259, 260, 261, 262, 263, 264, 265, 266, 267]
def inYs : List Nat := [0, 1, 2, 3, 4, 5, 6, 7, 8, 9, 11, 13, 14, 16, 17, 18, 19, 20, 21, 23, 24, 25, 26, 27, 28, 29, 30, 32, 33, 34, 35, 36, 44, 45, 46, 47, 48, 49, 50, 51, 52, 53, 54, 55, 56, 57, 58, 59, 60, 61, 62, 63, 64, 65, 66, 67, 68, 69, 70, 71, 72, 73, 74, 75, 76, 77, 78, 79, 80, 81, 82, 83, 86, 87, 88, 89, 90, 91, 92, 93, 94, 95, 98, 99, 106, 109, 111, 112, 114, 115, 116, 117, 118, 119, 120, 121, 122, 123, 124, 125, 126, 128, 129, 130, 131, 132, 133, 134, 135, 136, 137, 138, 139, 161, 162, 163, 164, 165, 166, 167, 168, 169, 170, 171, 172, 173, 174, 175, 176, 177, 178, 179, 180, 181, 182, 183, 184]
set_option maxRecDepth 100000 in
theorem w_stat : ∀ y ∈ stYs, Cond.static (mNm y) ∈ lw_tbl := map_p (f := fun y => Cond.static (mNm y)) (mem_p [223, 306, 303, 335, 420, 444, 447, 450, 453, 456, 494, 502, 700, 703, 306, 306, 306, 306, 306, 306, 306, 306, 306, 306, 735, 752, 839, 306, 306, 306, 306, 306, 306, 306, 306, 306, 306, 306, 306, 306, 306, 306, 306, 306, 306, 306, 306, 306, 1113, 1116, 1048, 1158, 1161, 1164, 1039, 949, 953, 1196, 966, 971, 987, 1103, 1189, 974, 1200, 1192, 1208, 306, 306, 306, 306, 306, 306, 306, 306, 306, 306, 306, 306, 306, 306, 306, 306, 306, 306, 306, 306, 306, 306, 306, 306, 306, 306, 306, 306, 306, 306, 306, 306, 306, 306, 306, 306, 306, 306, 306, 306, 306, 306, 306, 306, 306, 306, 306, 306, 306, 306, 306, 306, 306, 306, 306, 306, 306, 306, 306, 306, 306, 306, 306, 306] (by decide +kernel))
set_option maxRecDepth 100000 in
theorem w_inst : ∀ y ∈ inYs, Cond.instanceMethod (mNm y) ∈ lw_tbl := map_p (f := fun y => Cond.instanceMethod (mNm y)) (mem_p [52, 60, 92, 100, 136, 142, 167, 174, 178, 205, 958, 962, 299, 309, 313, 318, 323, 327, 331, 366, 370, 375, 400, 405, 408, 413, 417, 423, 428, 432, 435, 439, 516, 528, 532, 537, 540, 545, 548, 552, 556, 560, 565, 568, 572, 578, 581, 586, 590, 593, 598, 601, 605, 609, 614, 618, 622, 626, 631, 635, 642, 648, 657, 661, 666, 670, 676, 679, 683, 687, 693, 696, 707, 1203, 1241, 1216, 1219, 1224, 1228, 1232, 1237, 712, 718, 722, 1211, 731, 738, 744, 758, 786, 790, 796, 800, 804, 809, 812, 817, 822, 827, 831, 835, 845, 850, 854, 858, 863, 867, 876, 901, 905, 910, 913, 918, 925, 929, 933, 937, 941, 945, 992, 1020, 1106, 1131, 1152, 995, 1024, 1110, 1032, 1036, 1056, 1069, 1073, 1144, 1149, 1137, 1140, 1096] (by decide +kernel))
/-- of AbstractStringBuilder: all, private, selected by the tables -/
def asYs : List Nat := [173, 174, 175, 176, 177, 178, 179, 180, 181]
def apYs : List Nat := [175, 176, 178, 179]
def auYs : List Nat := [177, 180]
set_option maxRecDepth 100000 in
theorem w_aSame : ∀ y ∈ asYs, Cond.sameMethod (mNm y).cls "java/lang/AbstractStringBuilder" (mNm y).name (mNm y).desc ∈ lw_tbl := map_p (f := fun y => Cond.sameMethod (mNm y).cls "java/lang/AbstractStringBuilder" (mNm y).name (mNm y).desc) (mem_p [1254, 1261, 1256, 1257, 1057, 1258, 1259, 1145, 1150] (by decide +kernel))
set_option maxRecDepth 100000 in
theorem w_aPriv : ∀ y ∈ apYs, Cond.privateMethod (mNm y) ∈ lw_tbl := map_p (f := fun y => Cond.privateMethod (mNm y)) (mem_p [1031, 1035, 1068, 1072] (by decide +kernel))
set_option maxRecDepth 100000 in
theorem w_aSel : ∀ y ∈ auYs, Cond.selects "java/lang/StringBuilder" (mNm y) (mNm y) ∈ lw_tbl := map_p (f := fun y => Cond.selects "java/lang/StringBuilder" (mNm y) (mNm y)) (mem_p [1058, 1146] (by decide +kernel))
set_option maxRecDepth 100000 in
theorem w_uSel : Cond.selects "java/lang/StringBuilder" ⟨"java/lang/AbstractStringBuilder", "length", "()I"⟩ ⟨"java/lang/StringBuilder", "length", "()I"⟩ ∈ lw_tbl := List.mem_of_getElem? (i := 1151) (by decide +kernel)
set_option maxRecDepth 100000 in
theorem w_sup : Cond.superclass "java/lang/StringBuilder" "java/lang/AbstractStringBuilder" ∈ lw_tbl := List.mem_of_getElem? (i := 1018) (by decide +kernel)
def slYs : List Nat := [7, 8, 11, 13, 14, 16, 17, 18, 19, 20, 21, 23, 24, 26, 27, 28, 29, 30, 32, 33, 34, 35, 36, 45, 46, 47, 48, 49, 50, 51, 52, 53, 54, 55, 56, 57, 58, 59, 60, 61, 62, 63, 64, 65, 66, 67, 68, 69, 70, 71, 72, 73, 74, 75, 76, 77, 78, 79, 80, 81, 82, 83, 86, 87, 88, 89, 90, 91, 92, 93, 94, 95, 98, 99, 106, 109, 111, 112, 115, 116, 117, 118, 119, 120, 121, 122, 123, 124, 125, 126, 128, 129, 130, 131, 132, 133, 135, 136, 137, 138, 139, 161, 162, 163, 164, 165, 166, 168, 169, 170, 184]
set_option maxRecDepth 100000 in
theorem w_sel : ∀ y ∈ slYs, Cond.selects (cNm (mcL.getD y 99)) (mNm y) (mNm y) ∈ lw_tbl := map_p (f := fun y => Cond.selects (cNm (mcL.getD y 99)) (mNm y) (mNm y)) (mem_p [175, 179, 959, 963, 300, 310, 314, 319, 0, 328, 332, 1, 2, 401, 3, 409, 4, 5, 424, 6, 7, 436, 440, 529, 533, 8, 541, 9, 549, 553, 557, 561, 10, 569, 573, 11, 582, 12, 13, 594, 14, 602, 606, 610, 615, 619, 623, 627, 632, 636, 15, 649, 658, 662, 667, 671, 16, 680, 684, 688, 17, 697, 708, 1204, 1242, 21, 1220, 1225, 1229, 1233, 22, 713, 719, 723, 1212, 732, 739, 745, 787, 791, 797, 801, 805, 18, 813, 818, 19, 828, 832, 836, 846, 851, 855, 859, 864, 868, 902, 906, 20, 914, 919, 926, 930, 934, 938, 942, 946, 1021, 1107, 1132, 1097] (by decide +kernel))
set_option maxRecDepth 100000 in
theorem w_init0 : ∀ c ∈ List.range 21, Cond.initialized (cNm c) ∈ lw_tbl := map_p (f := fun c => Cond.initialized (cNm c)) (mem_p [26, 27, 37, 30, 40, 29, 43, 42, 32, 28, 25, 24, 45, 31, 34, 48, 38, 33, 23, 44, 46] (by decide +kernel))
theorem w_init {c : Nat} (h : c < 21) : Cond.initialized (cNm c) ∈ lw_tbl := w_init0 c (List.mem_range.mpr h)
set_option maxRecDepth 100000 in
theorem w_new0 : ∀ c ∈ List.range 14, Cond.instantiable (cNm c) (nfL.getD c 0) ∈ lw_tbl := map_p (f := fun c => Cond.instantiable (cNm c) (nfL.getD c 0)) (mem_p [90, 98, 373, 165, 500, 140, 874, 756, 203, 134, 58, 50, 990, 1135] (by decide +kernel))
theorem w_new {c : Nat} (h : c < 14) : Cond.instantiable (cNm c) (nfL.getD c 0) ∈ lw_tbl := w_new0 c (List.mem_range.mpr h)
set_option maxRecDepth 100000 in
theorem w_lay0 : ∀ w ∈ u_ws RX0 TX0 7, w ∈ lw_tbl := mem_p [118, 120, 122, 124, 126, 128, 130] (by decide +kernel)
set_option maxRecDepth 100000 in
theorem w_lay1 : ∀ w ∈ u_ws RX1 TX1 1, w ∈ lw_tbl := mem_p [104] (by decide +kernel)
set_option maxRecDepth 100000 in
theorem w_lay2 : ∀ w ∈ u_ws RX2 TX2 4, w ∈ lw_tbl := mem_p [390, 392, 394, 396] (by decide +kernel)
set_option maxRecDepth 100000 in
theorem w_lay3 : ∀ w ∈ u_ws RX3 TX3 5, w ∈ lw_tbl := mem_p [191, 193, 195, 197, 199] (by decide +kernel)
set_option maxRecDepth 100000 in
theorem w_lay4 : ∀ w ∈ u_ws RX4 TX4 2, w ∈ lw_tbl := mem_p [521, 523] (by decide +kernel)
set_option maxRecDepth 100000 in
theorem w_lay5 : ∀ w ∈ u_ws RX5 TX5 5, w ∈ lw_tbl := mem_p [151, 153, 155, 157, 159] (by decide +kernel)
set_option maxRecDepth 100000 in
theorem w_lay6 : ∀ w ∈ u_ws RX6 TX6 6, w ∈ lw_tbl := mem_p [887, 889, 891, 893, 895, 897] (by decide +kernel)
set_option maxRecDepth 100000 in
theorem w_lay7 : ∀ w ∈ u_ws RX7 TX7 7, w ∈ lw_tbl := mem_p [770, 772, 774, 776, 778, 780, 782] (by decide +kernel)
set_option maxRecDepth 100000 in
theorem w_lay8 : ∀ w ∈ u_ws RX8 TX8 3, w ∈ lw_tbl := mem_p [211, 213, 215] (by decide +kernel)
set_option maxRecDepth 100000 in
theorem w_lay9 : ∀ w ∈ u_ws RX9 TX9 15, w ∈ lw_tbl := mem_p [251, 253, 255, 257, 259, 261, 263, 265, 267, 269, 271, 273, 275, 277, 279] (by decide +kernel)
set_option maxRecDepth 100000 in
theorem w_lay10 : ∀ w ∈ u_ws RX10 TX10 7, w ∈ lw_tbl := mem_p [72, 74, 76, 78, 80, 82, 84] (by decide +kernel)
set_option maxRecDepth 100000 in
theorem w_lay11 : ∀ w ∈ u_ws RX11 TX11 5, w ∈ lw_tbl := mem_p [287, 289, 291, 293, 295] (by decide +kernel)
set_option maxRecDepth 100000 in
theorem w_lay12 : ∀ w ∈ u_ws RJ4 TJ4 4, w ∈ lw_tbl := mem_p [1010, 1012, 1014, 1016] (by decide +kernel)
set_option maxRecDepth 100000 in
theorem w_lay13 : ∀ w ∈ u_ws RJ0 TJ0 4, w ∈ lw_tbl := mem_p [1178, 1180, 1182, 1184] (by decide +kernel)
set_option maxRecDepth 100000 in
theorem w_oiI : Cond.instanceMethod Lib.objectInit ∈ lw_tbl := List.mem_of_getElem? (i := 55) (by decide +kernel)
set_option maxRecDepth 100000 in
theorem w_oiC : Cond.code Lib.objectInit ⟨#[0xb1]⟩ 1 none ∈ lw_tbl := List.mem_of_getElem? (i := 56) (by decide +kernel)
set_option maxRecDepth 100000 in
theorem w_acN : Cond.native arraycopyName ∈ lw_tbl := List.mem_of_getElem? (i := 514) (by decide +kernel)
set_option maxRecDepth 100000 in
theorem w_acS : Cond.static arraycopyName ∈ lw_tbl := List.mem_of_getElem? (i := 513) (by decide +kernel)
set_option maxRecDepth 100000 in
theorem w_acI : Cond.initialized "java/lang/System" ∈ lw_tbl := List.mem_of_getElem? (i := 41) (by decide +kernel)
set_option maxRecDepth 100000 in
theorem w_aci : Cond.arrayClass .int ∈ lw_tbl := List.mem_of_getElem? (i := 87) (by decide +kernel)
set_option maxRecDepth 100000 in
theorem w_acb : Cond.arrayClass .byte ∈ lw_tbl := List.mem_of_getElem? (i := 88) (by decide +kernel)
set_option maxRecDepth 100000 in
theorem w_ao2 : Cond.arrayOver (.object (cNm 2)) ∈ lw_tbl := List.mem_of_getElem? (i := 96) (by decide +kernel)
set_option maxRecDepth 100000 in
theorem w_ao4 : Cond.arrayOver (.object (cNm 4)) ∈ lw_tbl := List.mem_of_getElem? (i := 171) (by decide +kernel)
set_option maxRecDepth 100000 in
theorem w_ao6 : Cond.arrayOver (.object (cNm 6)) ∈ lw_tbl := List.mem_of_getElem? (i := 221) (by decide +kernel)
set_option maxRecDepth 100000 in
theorem w_ao7 : Cond.arrayOver (.object (cNm 7)) ∈ lw_tbl := List.mem_of_getElem? (i := 219) (by decide +kernel)
set_option maxRecDepth 100000 in
theorem w_ao13 : Cond.arrayOver (.object (cNm 13)) ∈ lw_tbl := List.mem_of_getElem? (i := 977) (by decide +kernel)
set_option maxRecDepth 100000 in
theorem w_aoI : Cond.arrayOver (.array .int) ∈ lw_tbl := List.mem_of_getElem? (i := 969) (by decide +kernel)
set_option maxRecDepth 100000 in
theorem w_clM : Cond.methodLink "java/util/Arrays" 316 ⟨"[I", "clone", "()Ljava/lang/Object;"⟩ ∈ lw_tbl := List.mem_of_getElem? (i := 504) (by decide +kernel)
set_option maxRecDepth 100000 in
theorem w_clSm : Cond.sameMethod "[I" "java/lang/Object" "clone" "()Ljava/lang/Object;" ∈ lw_tbl := List.mem_of_getElem? (i := 505) (by decide +kernel)
set_option maxRecDepth 100000 in
theorem w_clS : Cond.selects "[I" ⟨"[I", "clone", "()Ljava/lang/Object;"⟩ ⟨"java/lang/Object", "clone", "()Ljava/lang/Object;"⟩ ∈ lw_tbl := List.mem_of_getElem? (i := 508) (by decide +kernel)
set_option maxRecDepth 100000 in
theorem w_clC : Cond.castable "[I" "java/lang/Cloneable" ∈ lw_tbl := List.mem_of_getElem? (i := 509) (by decide +kernel)
set_option maxRecDepth 100000 in
theorem w_ccL : Cond.classLink "java/util/Arrays" 317 "[I" ∈ lw_tbl := List.mem_of_getElem? (i := 510) (by decide +kernel)
set_option maxRecDepth 100000 in
theorem w_clMB : Cond.methodLink "java/util/Arrays" 310 ⟨"[B", "clone", "()Ljava/lang/Object;"⟩ ∈ lw_tbl := List.mem_of_getElem? (i := 1050) (by decide +kernel)
set_option maxRecDepth 100000 in
theorem w_clSmB : Cond.sameMethod "[B" "java/lang/Object" "clone" "()Ljava/lang/Object;" ∈ lw_tbl := List.mem_of_getElem? (i := 1051) (by decide +kernel)
set_option maxRecDepth 100000 in
theorem w_clSB : Cond.selects "[B" ⟨"[B", "clone", "()Ljava/lang/Object;"⟩ ⟨"java/lang/Object", "clone", "()Ljava/lang/Object;"⟩ ∈ lw_tbl := List.mem_of_getElem? (i := 1052) (by decide +kernel)
set_option maxRecDepth 100000 in
theorem w_clCB : Cond.castable "[B" "java/lang/Cloneable" ∈ lw_tbl := List.mem_of_getElem? (i := 1053) (by decide +kernel)
set_option maxRecDepth 100000 in
theorem w_ccLB : Cond.classLink "java/util/Arrays" 311 "[B" ∈ lw_tbl := List.mem_of_getElem? (i := 1054) (by decide +kernel)
set_option maxRecDepth 100000 in
theorem w_clN : Cond.native ⟨"java/lang/Object", "clone", "()Ljava/lang/Object;"⟩ ∈ lw_tbl := List.mem_of_getElem? (i := 506) (by decide +kernel)
set_option maxRecDepth 100000 in
theorem w_clI : Cond.instanceMethod ⟨"java/lang/Object", "clone", "()Ljava/lang/Object;"⟩ ∈ lw_tbl := List.mem_of_getElem? (i := 507) (by decide +kernel)
set_option maxRecDepth 100000 in
theorem w_mnL : Cond.classLink "StockEventsLaw" 37 "[[I" ∈ lw_tbl := List.mem_of_getElem? (i := 968) (by decide +kernel)
def gsF (k : Nat) : String × String × String := match k with
  | 0 => ("java/lang/String", "COMPACT_STRINGS", "Z")
  | 1 => ("java/lang/Integer", "DigitOnes", "[B")
  | _ => ("java/lang/Integer", "DigitTens", "[B")
set_option maxRecDepth 100000 in
theorem w_gsT : ∀ e ∈ gsTab, Cond.fieldLink (cNm e.1) e.2.1 (gsF e.2.2).1 (gsF e.2.2).2.1 (gsF e.2.2).2.2 ∈ lw_tbl := map_p (f := fun (e : Nat × Nat × Nat) => Cond.fieldLink (cNm e.1) e.2.1 (gsF e.2.2).1 (gsF e.2.2).2.1 (gsF e.2.2).2.2) (mem_p [181, 998, 1118, 1120] (by decide +kernel))
set_option maxRecDepth 100000 in
theorem w_ciL : Cond.methodLink "java/lang/StringLatin1" 9 ⟨"java/lang/String", "checkIndex", "(II)V"⟩ ∈ lw_tbl := List.mem_of_getElem? (i := 337) (by decide +kernel)
def rkOf (r : Option FieldType) : Nat := match r with
  | none => 0
  | some .int => 1
  | some .boolean => 2
  | some .char => 3
  | some .byte => 4
  | some .long => 5
  | some (.object _) => 6
  | some (.array _) => 6
  | _ => 9
def mFacts (y : Nat) : Bool := decide (mMx y = mxL.getD y 0) && decide (rkOf (mRt y) = rkL.getD y 9) && decide ((mNm y).cls = cNm (mcL.getD y 99)) && plainFor (mNm y) && decide ((mNm y).cls ≠ "java/lang/invoke/MethodHandle") && decide ((mNm y).cls ≠ "java/lang/invoke/VarHandle")
  && decide ((parseMethodDescriptor (mNm y).desc).map (fun d => d.parameters.length) = some (bif stL.getD y true then naL.getD y 0 else naL.getD y 0 - 1)) && (bif stL.getD y true then stYs.contains y else inYs.contains y && (slYs.contains y || (isIni y || (asYs.contains y || Nat.beq y m_SB_length)))) && Nat.blt (mcL.getD y 99) 21 && Nat.ble (naL.getD y 0) (mxL.getD y 0) && Nat.ble (mxL.getD y 0) 40 && (!isIni y || decide (mRt y = none))
set_option maxRecDepth 100000 in
theorem m_facts0 : (List.range nM).all mFacts = true := by decide +kernel
theorem m_facts {y : Nat} (h : y < nM) : mFacts y = true := List.all_eq_true.mp m_facts0 y (List.mem_range.mpr h)
end
section
/-! What ties the pure memory to the machine's heap. -/
abbrev CX : Type := Nat × va_G × (Nat → ClassId) × (Nat → Nat) × Nat × (Nat → Int32) × Nat
/-- where the new cells begin; the classes; the array classes; the old cells' addresses; the script; how many low places (from 45 on) are new cells' (45: none, 106: the class's) -/
abbrev cxB (Γ : CX) : Nat := Γ.1
abbrev cxD (Γ : CX) : va_G := Γ.2.1
abbrev cxC (Γ : CX) : Nat → ClassId := Γ.2.2.1
abbrev cxA (Γ : CX) : Nat → Nat := Γ.2.2.2.1
abbrev cxL (Γ : CX) : Nat := Γ.2.2.2.2.1
abbrev cxX (Γ : CX) : Nat → Int32 := Γ.2.2.2.2.2.1
abbrev cxG (Γ : CX) : Nat := Γ.2.2.2.2.2.2
abbrev cxN (Γ : CX) : Nat := cxB Γ + (cxG Γ - 45)
def adF (Γ : CX) (a : Nat) : Nat := if 159 ≤ a then cxN Γ + (a - 159) else if 45 ≤ a ∧ a < cxG Γ then cxB Γ + (a - 45) else cxA Γ a
/-- a place of a cell that was made since the law began -/
def nwP (Γ : CX) (a : Nat) : Prop := 159 ≤ a ∨ (45 ≤ a ∧ a < cxG Γ)
def tvF (Γ : CX) (v : PV) : Value := match v with
  | .inl x => .int x
  | .inr (.inl r) => va_rf (r.map (adF Γ))
  | .inr (.inr (.inl z)) => .long z
  | .inr (.inr (.inr _)) => .null
def tysL (cs : Nat → ClassId) : List (ClassId × FieldType) := [(cs 0, .int), (cs 1, .byte), (cs 2, .object (cNm 4)), (cs 3, .object (cNm 2)), (cs 4, .object (cNm 7)), (cs 5, .object (cNm 6)), (cs 6, .object (cNm 13)), (cs 7, .array .int)]
def AF (Γ : CX) : Nat → Prop := fun q => cxB Γ ≤ q
/-- the texts of the String constants, by their places -/
def strL : List (List Int32) := [
  [97, 98, 115],
  [97, 98, 115],
  [111, 107, 104, 112, 118],
  [111, 112, 101, 110, 32, 112, 117, 116, 32, 116, 97, 107, 101, 32, 104, 111, 108, 100, 32, 102, 114, 101, 101, 32, 112, 114, 105, 99, 101, 32, 115, 101, 110, 100, 32, 99, 108, 111, 115, 101],
  [60, 61, 62],
  [43, 45],
  [42, 47, 37],
  [116, 111],
  [111, 112, 101, 110, 101, 100, 32, 112, 117, 116, 32, 116, 97, 107, 101, 110, 32, 104, 101, 108, 100, 32, 102, 114, 101, 101, 100, 32, 112, 114, 105, 99, 101, 100, 32, 115, 101, 110, 116, 32, 103, 111, 116, 32, 99, 108, 111, 115, 101, 100],
  [97, 98, 115],
  [111, 112, 101, 110],
  [115, 117, 109, 32, 99, 111, 117, 110, 116, 32, 109, 111, 115, 116, 32, 108, 101, 97, 115, 116, 32, 102, 105, 114, 115, 116, 32, 108, 97, 115, 116],
  [111, 102],
  [111, 112, 101, 110, 101, 100, 32, 112, 117, 116, 32, 116, 97, 107, 101, 110, 32, 104, 101, 108, 100, 32, 102, 114, 101, 101, 100, 32, 112, 114, 105, 99, 101, 100, 32, 115, 101, 110, 116, 32, 103, 111, 116, 32, 99, 108, 111, 115, 101, 100, 32, 97, 108, 108],
  [111, 112, 101, 110, 101, 100, 32, 112, 117, 116, 32, 116, 97, 107, 101, 110, 32, 104, 101, 108, 100, 32, 102, 114, 101, 101, 100, 32, 112, 114, 105, 99, 101, 100, 32, 115, 101, 110, 116, 32, 103, 111, 116, 32, 99, 108, 111, 115, 101, 100],
  [98, 121],
  [115, 116, 114, 101, 97, 109, 32, 107, 105, 110, 100, 32, 110, 111, 110, 101],
  [105, 102],
  [111, 110],
  [105, 102, 32, 100, 111],
  [100, 111],
  [112, 117, 116],
  [116, 97, 107, 101],
  [104, 111, 108, 100],
  [102, 114, 101, 101],
  [112, 114, 105, 99, 101],
  [115, 101, 110, 100],
  [99, 108, 111, 115, 101],
  [32],
  [32, 116, 111, 32],
  [111, 112, 101, 110, 32, 55],
  [111, 112, 101, 110, 32, 53],
  [115, 117, 109, 32, 111, 102, 32, 112, 117, 116, 43, 103, 111, 116, 32, 98, 121, 32, 115, 116, 114, 101, 97, 109],
  [99, 111, 117, 110, 116, 32, 111, 102, 32, 97, 108, 108, 32, 98, 121, 32, 107, 105, 110, 100],
  [111, 110, 32, 103, 111, 116, 32, 105, 102, 32, 97, 62, 51, 32, 100, 111, 32, 112, 117, 116, 32, 40, 97, 47, 50, 41],
  [112, 117, 116, 58, 97, 43, 49, 44, 98],
  [103, 111, 116, 58, 97, 42, 50, 44, 98],
  [58],
  [59],
  [58, 112, 117, 116, 32, 50]]
/-- the place of the j-th String; its bytes stand behind it -/
def plS (j : Nat) : Nat := if j < 22 then 2 * j + 1 else 2 * j + 62
def nStr : Nat := 40
/-- the digits' rows -/
def digV (w k : Nat) : Int32 := Int32.ofNat (48 + (if w = 0 then k % 10 else k / 10))
def wSt (w : Cond) : Bool := (w.onTables && w.keepsH) || (match w with
  | .arrayClass _ => true
  | _ => false)
/-- the arrays of rows of ints -/
def va_AOA (ty : FieldType) (U : State) : Prop := (Cond.arrayOver (.array ty)).before #[] U = true
theorem va_AOA.use {ty : FieldType} {A : Array Value} {U : State} (h : va_AOA ty U) : (Cond.arrayOver (.array ty)).before A U = true := h
theorem va_AOA.moved {ty : FieldType} {u U : State} (hvm : u.vm.Alike U.vm) (h : va_AOA ty u) : va_AOA ty U := Jvm.Stand.arrayOver_alikeB hvm h
def EO (Γ : CX) (U : State) : Prop := (∀ w ∈ lw_tbl, wSt w = true → ∀ a : Array Value, w.before a U = true) ∧ va_K (cxD Γ) vwCl (tysL (cxC Γ)) U ∧ (∀ t ∈ sTab, ∃ tx, vk_R (cNm t.1) t.2.1 tx (cxA Γ t.2.2) U)
  ∧ va_Nw (.castable "[I" "java/lang/Cloneable") U ∧ (∀ c ∈ [2, 4, 6, 7, 13], va_AO (cNm c) U) ∧ (∃ c0 : ClassId, U.vm.findClass "[I" = some c0 ∧ c0 = cxC Γ 0) ∧ va_Nw (.castable "[B" "java/lang/Cloneable") U ∧ (∃ c0 : ClassId, U.vm.findClass "[B" = some c0 ∧ c0 = cxC Γ 1) ∧ va_AOA .int U ∧ (∃ c0 : ClassId, U.vm.findClass "[[I" = some c0 ∧ c0 = cxC Γ 7) ∧ ∀ y ∈ apYs, ∀ a : Array Value, (Cond.selects "java/lang/StringBuilder" (mNm y) (mNm y)).before a U = true
def strOK (Γ : CX) (U : State) (H : Heap) (j : Nat) : Prop := va_O "java/lang/String" (cxA Γ (plS j)) (AF Γ) U H ∧ va_OF "java/lang/String" "coder" "B" (.int 0) (cxA Γ (plS j)) (AF Γ) U H ∧ va_OF "java/lang/String" "value" "[B" (.ref (cxA Γ (plS j + 1))) (cxA Γ (plS j)) (AF Γ) U H
  ∧ va_T .byte (cxA Γ (plS j + 1)) ((strL.getD j []).length) (fun k => .int ((strL.getD j []).getD k 0)) (AF Γ) U H
def digOK (Γ : CX) (U : State) (H : Heap) (w : Nat) : Prop := va_Z (gsF (w + 1)).1 (gsF (w + 1)).2.1 (gsF (w + 1)).2.2 (.ref (cxA Γ (142 + w))) (AF Γ) U H ∧ va_T .byte (cxA Γ (142 + w)) 100 (fun k => .int (digV w k)) (AF Γ) U H
def EH (Γ : CX) (U : State) (H : Heap) : Prop := (∀ j, j < nStr → strOK Γ U H j) ∧ va_Z "java/lang/String" "COMPACT_STRINGS" "Z" (.int 1) (AF Γ) U H ∧ va_X (cxA Γ 0) (cxL Γ) (cxX Γ) U H ∧ cxA Γ 0 < H.size ∧ ¬ AF Γ (cxA Γ 0)
  ∧ (∃ v : Value, va_Z "jdk/internal/util/Preconditions" "SIOOBE_FORMATTER" "Ljava/util/function/BiFunction;" v (AF Γ) U H ∧ v.category = 1) ∧ ∀ w, w < 2 → digOK Γ U H w
theorem EO.warm {Γ : CX} {s U : State} (hW : s.WarmedH U.vm) (h : EO Γ s) : EO Γ U := by
  obtain ⟨h1, h2, h3, h4, h5, ⟨c0, h6, h7⟩, h8, ⟨c1, h9, h10⟩, h11, ⟨c2, h12, h13⟩, h14⟩ := h
  refine ⟨fun w hw hs a => ?_, va_K.moved hW.alike h2, fun t ht => ?_, va_Nw.warmC hW h4, fun c hc => va_AO.moved hW.alike (h5 c hc), ⟨c0, by rw [hW.alike.findClass]; exact h6, h7⟩, va_Nw.warmC hW h8, ⟨c1, by rw [hW.alike.findClass]; exact h9, h10⟩, va_AOA.moved hW.alike h11, ⟨c2, by rw [hW.alike.findClass]; exact h12, h13⟩, fun y hy a => ?_⟩
  · have h0 := h1 w hw hs #[]
    unfold wSt at hs
    rw [Bool.or_eq_true] at hs
    rcases hs with hs | hs
    · rw [Bool.and_eq_true] at hs
      have := Cond.onTables_warmH (args := #[]) (args' := a) (T := U) hW hs.1 hs.2 h0
      rwa [State.setVm_self] at this
    · cases w <;> first | exact word_at hW (Or.inr ⟨_, rfl⟩) h0 | cases hs
  · obtain ⟨tx, h⟩ := h3 t ht
    exact ⟨tx, vk_R.warm hW h⟩
  · have := Cond.onTables_warmH (args := #[]) (args' := a) (T := U) hW rfl rfl (h14 y hy #[])
    rwa [State.setVm_self] at this
theorem EH.kept {Γ : CX} {s U : State} {H H1 : Heap} (h : EH Γ s H) (hvm : s.vm.Alike U.vm) (hz : H.size ≤ H1.size) (hq : ∀ a : Nat, a < H.size → ¬ AF Γ a → H1[a]? = H[a]?) : EH Γ U H1 := by
  obtain ⟨h1, h2, ⟨scr, g1, g2, g3⟩, h4, h5, ⟨v, h6, h7⟩, h8⟩ := h
  refine ⟨fun j hj => ?_, (va_Z.moved hvm h2).kept hq, ⟨scr, by rw [hq _ h4 h5]; exact g1, State.isArrayOf_alike hvm g2, g3⟩, Nat.lt_of_lt_of_le h4 hz, h5, ⟨v, (va_Z.moved hvm h6).kept hq, h7⟩, fun w hw => ⟨(va_Z.moved hvm (h8 w hw).1).kept hq, ((h8 w hw).2.moved hvm).kept hq⟩⟩
  obtain ⟨q1, q2, q3, q4⟩ := h1 j hj
  exact ⟨(q1.moved hvm).kept hq, (q2.moved hvm).kept hq, (q3.moved hvm).kept hq, (q4.moved hvm).kept hq⟩
def teF (Γ : CX) (M : PM) (a c k : Nat) : Value := match XF.2 c k with
  | 1 => va_rf ((pR M a k).map (adF Γ))
  | _ => .int (pI M a k)
/-- a byte as an int -/
def bytP (x : Int32) : Prop := x.toInt8.toInt32 = x
def cellR (Γ : CX) (M : PM) (a : Nat) (H : Heap) : Prop :=
  (pKd M a < 14 ∧ t_OB (adF Γ a) ((cxD Γ).1 (pKd M a)) (nfL.getD (pKd M a) 0) ((cxD Γ).2 (pKd M a)) H (fun k => teF Γ M a (pKd M a) k)) ∨
  (pKd M a = 20 ∧ H[adF Γ a]? = some (arrV (cxC Γ 0) (pLn M a) (fun j => .int (pI M a j)))) ∨
  (22 ≤ pKd M a ∧ pKd M a < 28 ∧ H[adF Γ a]? = some (arrV (cxC Γ (pKd M a - 20)) (pLn M a) (fun j => va_rf ((pR M a j).map (adF Γ))))) ∨
  (pKd M a = 21 ∧ H[adF Γ a]? = some (arrV (cxC Γ 1) (pLn M a) (fun j => .int (pI M a j))) ∧ ∀ j, bytP (pI M a j))
def strR (M : PM) (j : Nat) : Prop := pKd M (plS j) = 13 ∧ pR M (plS j) 0 = some (plS j + 1) ∧ pI M (plS j) 1 = 0 ∧ pKd M (plS j + 1) = 21 ∧ pLn M (plS j + 1) = (strL.getD j []).length ∧ ∀ k, pI M (plS j + 1) k = (strL.getD j []).getD k 0
def digR (M : PM) (w : Nat) : Prop := pKd M (142 + w) = 21 ∧ pLn M (142 + w) = 100 ∧ ∀ k, k < 100 → pI M (142 + w) k = digV w k
def oldR (Γ : CX) (M : PM) : Prop := pKd M 0 = 19 ∧ pLn M 0 = cxL Γ ∧ (∀ j, j < cxL Γ → pI M 0 j = cxX Γ j) ∧ (∀ j, j < nStr → strR M j) ∧ (∀ w, w < 2 → digR M w) ∧ ∀ a, 144 ≤ a → a < 159 → pKd M a = 99
def RelM (Γ : CX) (M : PM) (H : Heap) : Prop := 159 ≤ pSz M ∧ H.size = cxN Γ + (pSz M - 159) ∧ (∀ a, nwP Γ a → a < pSz M → cellR Γ M a H) ∧ oldR Γ M ∧ (∀ a, pSz M ≤ a → pKd M a = 99) ∧ (∀ a, cxG Γ ≤ a → 45 ≤ a → a < 106 → pKd M a = 99) ∧ cxG Γ ≤ 106
/-- where an old cell lies -/
theorem old_cases {Γ : CX} {a : Nat} (ha : a < 159) (hn : ¬ nwP Γ a) (hG : cxG Γ ≤ 106) : a = 0 ∨ (∃ j, j < nStr ∧ (a = plS j ∨ a = plS j + 1)) ∨ (∃ w, w < 2 ∧ a = 142 + w) ∨ (144 ≤ a ∧ a < 159) ∨ (cxG Γ ≤ a ∧ 45 ≤ a ∧ a < 106) := by
  have hn' : ¬ (45 ≤ a ∧ a < cxG Γ) := fun q => hn (Or.inr q)
  by_cases h0 : a = 0
  · exact Or.inl h0
  by_cases h1 : a < 45
  · refine Or.inr (Or.inl ⟨(a - 1) / 2, ?_, ?_⟩)
    · show _ < 40
      omega
    · unfold plS
      rw [if_pos (by omega)]
      omega
  by_cases h2 : a < 106
  · exact Or.inr (Or.inr (Or.inr (Or.inr ⟨by omega, by omega, h2⟩)))
  by_cases h3 : a < 142
  · refine Or.inr (Or.inl ⟨(a - 62) / 2, ?_, ?_⟩)
    · show _ < 40
      omega
    · unfold plS
      rw [if_neg (by omega)]
      omega
  by_cases h4 : a < 144
  · exact Or.inr (Or.inr (Or.inl ⟨a - 142, by omega, by omega⟩))
  · exact Or.inr (Or.inr (Or.inr (Or.inl ⟨by omega, ha⟩)))
theorem plS_lt {j : Nat} (h : j < nStr) : plS j + 1 < 142 ∧ (plS j + 1 < 45 ∨ 106 ≤ plS j) := by
  have h' : j < 40 := h
  unfold plS
  split <;> omega
theorem nwP_no {Γ : CX} {a : Nat} (h : a < 45 ∨ 106 ≤ a) (h2 : a < 159) (hG : cxG Γ ≤ 106) : ¬ nwP Γ a := fun q => by
  unfold nwP at q
  omega
theorem adF_old {Γ : CX} {a : Nat} (h : a < 45 ∨ 106 ≤ a) (h2 : a < 159) (hG : cxG Γ ≤ 106) : adF Γ a = cxA Γ a := by
  unfold adF
  rw [if_neg (by omega), if_neg (by omega)]
/-- what is of a kind that no old cell is of is new -/
theorem RelM.new {Γ : CX} {M : PM} {H : Heap} (h : RelM Γ M H) {a : Nat} (h1 : pKd M a ≠ 19) (h2 : pKd M a ≠ 13) (h3 : pKd M a ≠ 21) (h4 : pKd M a ≠ 99) : nwP Γ a ∧ a < pSz M := by
  obtain ⟨g1, g2, g3, g4, g5, g6, g7⟩ := h
  have hlt : a < pSz M := Nat.not_le.mp fun q => h4 (g5 a q)
  refine ⟨Classical.not_not.mp fun hn => ?_, hlt⟩
  have ha : a < 159 := Nat.not_le.mp fun q => hn (Or.inl q)
  obtain ⟨o1, o2, o3, o4, o5, o6⟩ := g4
  rcases old_cases ha hn g7 with rfl | ⟨j, hj, rfl | rfl⟩ | ⟨w, hw, rfl⟩ | ⟨q1, q2⟩ | ⟨q1, q2, q3⟩
  · exact h1 o1
  · exact h2 (o4 j hj).1
  · exact h3 (o4 j hj).2.2.2.1
  · exact h3 (o5 w hw).1
  · exact h4 (o6 a q1 q2)
  · exact h4 (g6 a q1 q2 q3)
/-- a String is new, or one of the constants -/
theorem RelM.str {Γ : CX} {M : PM} {H : Heap} (h : RelM Γ M H) {a : Nat} (h1 : pKd M a = 13) : (nwP Γ a ∧ a < pSz M) ∨ ∃ j, j < nStr ∧ a = plS j := by
  obtain ⟨g1, g2, g3, g4, g5, g6, g7⟩ := h
  have hlt : a < pSz M := Nat.not_le.mp fun q => by rw [g5 a q] at h1; cases h1
  by_cases hn : nwP Γ a
  · exact Or.inl ⟨hn, hlt⟩
  have ha : a < 159 := Nat.not_le.mp fun q => hn (Or.inl q)
  obtain ⟨o1, o2, o3, o4, o5, o6⟩ := g4
  rcases old_cases ha hn g7 with rfl | ⟨j, hj, rfl | rfl⟩ | ⟨w, hw, rfl⟩ | ⟨q1, q2⟩ | ⟨q1, q2, q3⟩
  · rw [o1] at h1; cases h1
  · exact Or.inr ⟨j, hj, rfl⟩
  · rw [(o4 j hj).2.2.2.1] at h1; cases h1
  · rw [(o5 w hw).1] at h1; cases h1
  · rw [o6 a q1 q2] at h1; cases h1
  · rw [g6 a q1 q2 q3] at h1; cases h1
/-- a row of bytes is new, or a constant's, or one of the digits' -/
theorem RelM.byt {Γ : CX} {M : PM} {H : Heap} (h : RelM Γ M H) {a : Nat} (h1 : pKd M a = 21) : (nwP Γ a ∧ a < pSz M) ∨ (∃ j, j < nStr ∧ a = plS j + 1) ∨ ∃ w, w < 2 ∧ a = 142 + w := by
  obtain ⟨g1, g2, g3, g4, g5, g6, g7⟩ := h
  have hlt : a < pSz M := Nat.not_le.mp fun q => by rw [g5 a q] at h1; cases h1
  by_cases hn : nwP Γ a
  · exact Or.inl ⟨hn, hlt⟩
  have ha : a < 159 := Nat.not_le.mp fun q => hn (Or.inl q)
  obtain ⟨o1, o2, o3, o4, o5, o6⟩ := g4
  rcases old_cases ha hn g7 with rfl | ⟨j, hj, rfl | rfl⟩ | ⟨w, hw, rfl⟩ | ⟨q1, q2⟩ | ⟨q1, q2, q3⟩
  · rw [o1] at h1; cases h1
  · rw [(o4 j hj).1] at h1; cases h1
  · exact Or.inr (Or.inl ⟨j, hj, rfl⟩)
  · exact Or.inr (Or.inr ⟨w, hw, rfl⟩)
  · rw [o6 a q1 q2] at h1; cases h1
  · rw [g6 a q1 q2 q3] at h1; cases h1
theorem RelM.scr {Γ : CX} {M : PM} {H : Heap} (h : RelM Γ M H) {a : Nat} (h1 : pKd M a = 19) : a = 0 := by
  obtain ⟨g1, g2, g3, g4, g5, g6, g7⟩ := h
  have hlt : a < pSz M := Nat.not_le.mp fun q => by rw [g5 a q] at h1; cases h1
  by_cases hn : nwP Γ a
  · rcases g3 a hn hlt with ⟨q, -⟩ | ⟨q, -⟩ | ⟨q, q2, -⟩ | ⟨q, -⟩ <;> omega
  have ha : a < 159 := Nat.not_le.mp fun q => hn (Or.inl q)
  obtain ⟨o1, o2, o3, o4, o5, o6⟩ := g4
  rcases old_cases ha hn g7 with rfl | ⟨j, hj, rfl | rfl⟩ | ⟨w, hw, rfl⟩ | ⟨q1, q2⟩ | ⟨q1, q2, q3⟩
  · rfl
  · rw [(o4 j hj).1] at h1; cases h1
  · rw [(o4 j hj).2.2.2.1] at h1; cases h1
  · rw [(o5 w hw).1] at h1; cases h1
  · rw [o6 a q1 q2] at h1; cases h1
  · rw [g6 a q1 q2 q3] at h1; cases h1
theorem adF_159 {Γ : CX} {a : Nat} (h : 159 ≤ a) : adF Γ a = cxN Γ + (a - 159) := by
  unfold adF
  rw [if_pos h]
theorem adF_ne {Γ : CX} {a b : Nat} (ha : nwP Γ a) (hb : nwP Γ b) (h : b ≠ a) : adF Γ b ≠ adF Γ a := by
  unfold nwP at ha hb
  unfold adF
  show (if 159 ≤ b then cxB Γ + (cxG Γ - 45) + (b - 159) else _) ≠ (if 159 ≤ a then cxB Γ + (cxG Γ - 45) + (a - 159) else _)
  generalize cxA Γ a = u
  generalize cxA Γ b = v
  split <;> split <;> (try split) <;> (try split) <;> omega
theorem adF_A {Γ : CX} {a : Nat} (ha : nwP Γ a) : AF Γ (adF Γ a) := by
  unfold nwP at ha
  unfold adF AF
  show cxB Γ ≤ (if 159 ≤ a then cxB Γ + (cxG Γ - 45) + (a - 159) else _)
  split
  · omega
  · rw [if_pos (by omega)]
    omega
/-- the new cells lie below the heap's end -/
theorem adF_lt {Γ : CX} {M : PM} {H : Heap} (h : RelM Γ M H) {a : Nat} (ha : nwP Γ a) (hl : a < pSz M) : adF Γ a < H.size := by
  obtain ⟨g1, g2, -⟩ := h
  have g2' : H.size = cxB Γ + (cxG Γ - 45) + (pSz M - 159) := g2
  unfold nwP at ha
  unfold adF
  show (if 159 ≤ a then cxB Γ + (cxG Γ - 45) + (a - 159) else _) < _
  split
  · omega
  · rw [if_pos (by omega)]
    omega
theorem cellR.congr {Γ : CX} {M M' : PM} {a : Nat} {H H1 : Heap} (h : cellR Γ M a H) (h1 : pKd M' a = pKd M a) (h2 : pLn M' a = pLn M a) (h3 : pI M' a = pI M a) (h4 : pR M' a = pR M a) (hq : H1[adF Γ a]? = H[adF Γ a]?) : cellR Γ M' a H1 := by
  have ht : ∀ c k, teF Γ M' a c k = teF Γ M a c k := fun c k => by unfold teF; rw [h3, h4]
  rcases h with ⟨q1, q2⟩ | ⟨q1, q2⟩ | ⟨q1, q2, q3⟩ | ⟨q1, q2, q3⟩
  · refine Or.inl ⟨by rw [h1]; exact q1, ?_⟩
    rw [h1]
    exact (q2.kept hq).to (fun k _ => (ht _ _).symm)
  · exact Or.inr (Or.inl ⟨by rw [h1]; exact q1, by rw [hq, h2, h3]; exact q2⟩)
  · exact Or.inr (Or.inr (Or.inl ⟨by rw [h1]; exact q1, by rw [h1]; exact q2, by rw [hq, h1, h2, h4]; exact q3⟩))
  · exact Or.inr (Or.inr (Or.inr ⟨by rw [h1]; exact q1, by rw [hq, h2, h3]; exact q2, by rw [h3]; exact q3⟩))
theorem oldR.congr {Γ : CX} {M M' : PM} (h : oldR Γ M) (hq : ∀ a, (a < 45 ∨ (106 ≤ a ∧ a < 159)) → pKd M' a = pKd M a ∧ pLn M' a = pLn M a ∧ pI M' a = pI M a ∧ pR M' a = pR M a) : oldR Γ M' := by
  obtain ⟨h0, h1, h2, h3, h4, h5⟩ := h
  have q0 := hq 0 (by omega)
  refine ⟨by rw [q0.1]; exact h0, by rw [q0.2.1]; exact h1, fun j hj => by rw [q0.2.2.1]; exact h2 j hj, fun j hj => ?_, fun w hw => ?_, fun a g1 g2 => by rw [(hq a (Or.inr ⟨by omega, g2⟩)).1]; exact h5 a g1 g2⟩
  · have hl := plS_lt hj
    have q1 := hq (plS j) (by omega)
    have q2 := hq (plS j + 1) (by omega)
    obtain ⟨z1, z2, z3, z4, z5, z6⟩ := h3 j hj
    exact ⟨by rw [q1.1]; exact z1, by rw [q1.2.2.2]; exact z2, by rw [q1.2.2.1]; exact z3, by rw [q2.1]; exact z4, by rw [q2.2.1]; exact z5, fun k => by rw [q2.2.2.1]; exact z6 k⟩
  · have q1 := hq (142 + w) (by omega)
    obtain ⟨z1, z2, z3⟩ := h4 w hw
    exact ⟨by rw [q1.1]; exact z1, by rw [q1.2.1]; exact z2, fun k hk => by rw [q1.2.2.1]; exact z3 k hk⟩
/-- one cell was written -/
theorem RelM.upd {Γ : CX} {M M' : PM} {H H1 : Heap} (h : RelM Γ M H) {a : Nat} (ha : nwP Γ a) (h0 : pSz M' = pSz M) (h1 : pKd M' = pKd M) (h2 : pLn M' = pLn M) (h3 : ∀ b, b ≠ a → pI M' b = pI M b) (h4 : ∀ b, b ≠ a → pR M' b = pR M b)
    (hc : cellR Γ M' a H1) (hz : H1.size = H.size) (hq : ∀ q, q ≠ adF Γ a → H1[q]? = H[q]?) : RelM Γ M' H1 := by
  obtain ⟨g1, g2, g3, g4, g5, g6, g7⟩ := h
  have hne : ∀ b, (b < 45 ∨ (106 ≤ b ∧ b < 159)) → b ≠ a := fun b hb e => by
    unfold nwP at ha
    omega
  refine ⟨by rw [h0]; exact g1, by rw [hz, h0]; exact g2, fun b hb hl => ?_, g4.congr (fun b hb => ⟨by rw [h1], by rw [h2], h3 b (hne b hb), h4 b (hne b hb)⟩), fun b hb => by rw [h1]; exact g5 b (by rw [← h0]; exact hb), fun b => by rw [h1]; exact g6 b, g7⟩
  by_cases e : b = a
  · subst e
    exact hc
  · exact (g3 b hb (by rw [← h0]; exact hl)).congr (by rw [h1]) (by rw [h2]) (h3 b e) (h4 b e) (hq _ (adF_ne ha hb e))
/-- some cells were made -/
theorem RelM.mks {Γ : CX} {M M' : PM} {H H1 : Heap} (h : RelM Γ M H) {n : Nat} (h0 : pSz M' = pSz M + n) (hk : ∀ b, ¬ (pSz M ≤ b ∧ b < pSz M + n) → pKd M' b = pKd M b ∧ pLn M' b = pLn M b ∧ pI M' b = pI M b ∧ pR M' b = pR M b)
    (hc : ∀ i, i < n → adF Γ (pSz M + i) = H.size + i → cellR Γ M' (pSz M + i) H1) (hz : H1.size = H.size + n) (hq : ∀ q, q < H.size → H1[q]? = H[q]?) : RelM Γ M' H1 := by
  have hall := h
  obtain ⟨g1, g2, g3, g4, g5, g6, g7⟩ := h
  have g2' : H.size = cxB Γ + (cxG Γ - 45) + (pSz M - 159) := g2
  refine ⟨by omega, ?_, fun b hb hl => ?_, g4.congr (fun b hb => hk b (by omega)), fun b hb => by rw [(hk b (by omega)).1]; exact g5 b (by omega), fun b q1 q2 q3 => by rw [(hk b (by omega)).1]; exact g6 b q1 q2 q3, g7⟩
  · show H1.size = cxB Γ + (cxG Γ - 45) + (pSz M' - 159)
    omega
  by_cases e : pSz M ≤ b
  · have := hc (b - pSz M) (by omega) (by rw [adF_159 (by omega)]; show cxB Γ + (cxG Γ - 45) + _ = _; omega)
    rw [show pSz M + (b - pSz M) = b by omega] at this
    exact this
  · obtain ⟨r1, r2, r3, r4⟩ := hk b (by omega)
    exact (g3 b hb (by omega)).congr r1 r2 r3 r4 (hq _ (adF_lt hall hb (by omega)))
/-- one cell was made -/
theorem RelM.mk {Γ : CX} {M : PM} {H H1 : Heap} (h : RelM Γ M H) {c n : Nat} (hc : ∀ M' : PM, M' = mkN M c n → adF Γ (pSz M) = H.size → cellR Γ M' (pSz M) H1) (hz : H1.size = H.size + 1) (hq : ∀ q, q < H.size → H1[q]? = H[q]?) : RelM Γ (mkN M c n) H1 := by
  refine h.mks (n := 1) rfl (fun b hb => ?_) (fun i hi e => ?_) hz hq
  · have hb : b ≠ pSz M := by omega
    refine ⟨?_, ?_, ?_, ?_⟩
    · show up1 _ _ _ b = _
      simp [up1, hb]
    · show up1 _ _ _ b = _
      simp [up1, hb]
    · show (fun k => upr _ _ _ b k) = _
      funext k
      simp [upr, hb]
    · show (fun k => upr _ _ _ b k) = _
      funext k
      simp [upr, hb]
  · obtain rfl : i = 0 := by omega
    exact hc _ rfl e
theorem RelM.end_ad {Γ : CX} {M : PM} {H : Heap} (h : RelM Γ M H) : adF Γ (pSz M) = H.size := by
  rw [adF_159 h.1, h.2.1]
/-- the classes' facts -/
def tyCd (t : FieldType) : Nat := match t with
  | .boolean => 2
  | .object _ => 1
  | .array _ => 1
  | .int => 0
  | .byte => 3
  | _ => 9
def clF (Γ : CX) (s : State) (c : Nat) : Prop := ∃ (T : u_T) (N : Nat) (ty : Nat → FieldType), vwCl[c]? = some (cNm c, T, N) ∧ N = nfL.getD c 0 ∧ (∀ a : Array Value, ∀ w ∈ u_ws (cNm c) T N, w.before a s = true) ∧ (∀ k, k < N → parseFieldDescriptor (T k).2.2.1 = some (ty k)) ∧ (∀ a, a < N → ∀ b, b < N → a ≠ b → (T a).2.1 ≠ (T b).2.1)
  ∧ (∀ k, k < N → XF.2 c k = tyCd (ty k)) ∧ (∀ k, k < N → (T k).1 = fCl c k ∧ (T k).2.1 = fNm c k ∧ (T k).2.2.1 = fDs c k ∧ (T k).2.2.2 = (fnL.getD c []).getD k true)
theorem u_wSt {C : String} {T : u_T} {N : Nat} {w : Cond} (h : w ∈ u_ws C T N) : wSt w = true := by
  obtain ⟨k, -, rfl⟩ := List.mem_map.mp h
  unfold u_lay
  split <;> rfl
theorem clF_all {Γ : CX} {s : State} (hE : EO Γ s) : ∀ c, c < 14 → clF Γ s c
  | 0, _ => ⟨TX0, 7, tyX0, rfl, rfl, fun a w hw => hE.1 w (w_lay0 w hw) (u_wSt hw) a, tyX0_ok, nmX0, by decide +kernel, by decide +kernel⟩
  | 1, _ => ⟨TX1, 1, tyX1, rfl, rfl, fun a w hw => hE.1 w (w_lay1 w hw) (u_wSt hw) a, tyX1_ok, nmX1, by decide +kernel, by decide +kernel⟩
  | 2, _ => ⟨TX2, 4, tyX2, rfl, rfl, fun a w hw => hE.1 w (w_lay2 w hw) (u_wSt hw) a, tyX2_ok, nmX2, by decide +kernel, by decide +kernel⟩
  | 3, _ => ⟨TX3, 5, tyX3, rfl, rfl, fun a w hw => hE.1 w (w_lay3 w hw) (u_wSt hw) a, tyX3_ok, nmX3, by decide +kernel, by decide +kernel⟩
  | 4, _ => ⟨TX4, 2, tyX4, rfl, rfl, fun a w hw => hE.1 w (w_lay4 w hw) (u_wSt hw) a, tyX4_ok, nmX4, by decide +kernel, by decide +kernel⟩
  | 5, _ => ⟨TX5, 5, tyX5, rfl, rfl, fun a w hw => hE.1 w (w_lay5 w hw) (u_wSt hw) a, tyX5_ok, nmX5, by decide +kernel, by decide +kernel⟩
  | 6, _ => ⟨TX6, 6, tyX6, rfl, rfl, fun a w hw => hE.1 w (w_lay6 w hw) (u_wSt hw) a, tyX6_ok, nmX6, by decide +kernel, by decide +kernel⟩
  | 7, _ => ⟨TX7, 7, tyX7, rfl, rfl, fun a w hw => hE.1 w (w_lay7 w hw) (u_wSt hw) a, tyX7_ok, nmX7, by decide +kernel, by decide +kernel⟩
  | 8, _ => ⟨TX8, 3, tyX8, rfl, rfl, fun a w hw => hE.1 w (w_lay8 w hw) (u_wSt hw) a, tyX8_ok, nmX8, by decide +kernel, by decide +kernel⟩
  | 9, _ => ⟨TX9, 15, tyX9, rfl, rfl, fun a w hw => hE.1 w (w_lay9 w hw) (u_wSt hw) a, tyX9_ok, nmX9, by decide +kernel, by decide +kernel⟩
  | 10, _ => ⟨TX10, 7, tyX10, rfl, rfl, fun a w hw => hE.1 w (w_lay10 w hw) (u_wSt hw) a, tyX10_ok, nmX10, by decide +kernel, by decide +kernel⟩
  | 11, _ => ⟨TX11, 5, tyX11, rfl, rfl, fun a w hw => hE.1 w (w_lay11 w hw) (u_wSt hw) a, tyX11_ok, nmX11, by decide +kernel, by decide +kernel⟩
  | 12, _ => ⟨TJ4, 4, tyJ4, rfl, rfl, fun a w hw => hE.1 w (w_lay12 w hw) (u_wSt hw) a, tyJ4_ok, nmJ4, by decide +kernel, by decide +kernel⟩
  | 13, _ => ⟨TJ0, 4, tyJ0, rfl, rfl, fun a w hw => hE.1 w (w_lay13 w hw) (u_wSt hw) a, tyJ0_ok, nmJ0, by decide +kernel, by decide +kernel⟩
  | n + 14, h => absurd h (by omega)
end
section
/-! Memory instructions over the machine, in the words of the pure memory. -/
section MEMI
variable {p : Program} {l : Launch} {e : Env} {R : Room} {s : State} {m : MethodId} {args : Array Value} {below : List Frame} {meth : Method} {c : Code} {H : Heap} {locs : List Loc} {cells slots : Nat} {Q : State → Prop}
variable {Γ : CX} {pc : Nat} {lk : Array Slot} {rest : List Value} {cc : ByteArray} {M : PM}
theorem bytP_rng {x : Int32} (h : bytP x) : -128 ≤ x ∧ x ≤ 127 := by
  have e : x.toInt = x.toInt8.toInt := by
    have := Int8.toInt_toInt32 x.toInt8
    rw [show x.toInt8.toInt32 = x from h] at this
    exact this
  have h1 := Int8.le_toInt x.toInt8
  have h2 := Int8.toInt_lt x.toInt8
  refine ⟨Int32.le_iff_toInt_le.mpr ?_, Int32.le_iff_toInt_le.mpr ?_⟩
  · show (-128 : Int) ≤ _
    omega
  · show _ ≤ (127 : Int)
    omega
theorem RelM.obj (hM : RelM Γ M H) {a k0 : Nat} (ha : pKd M a = k0) (hk0 : k0 < 14) (hn : nwP Γ a) : t_OB (adF Γ a) ((cxD Γ).1 k0) (nfL.getD k0 0) ((cxD Γ).2 k0) H (fun k => teF Γ M a k0 k) := by
  subst ha
  have hlt : a < pSz M := Nat.not_le.mp fun q => by
    have := hM.2.2.2.2.1 a q
    omega
  rcases hM.2.2.1 a hn hlt with ⟨-, q⟩ | ⟨q, -⟩ | ⟨q, -⟩ | ⟨q, -⟩
  · exact q
  · omega
  · omega
  · omega
theorem RelM.nw13 (hM : RelM Γ M H) {a : Nat} (ha : pKd M a < 13) : nwP Γ a := (hM.new (a := a) (by omega) (by omega) (by omega) (by omega)).1
theorem RelM.arr (hM : RelM Γ M H) {a : Nat} (ha : pKd M a = 20) : nwP Γ a ∧ H[adF Γ a]? = some (arrV (cxC Γ 0) (pLn M a) (fun j => .int (pI M a j))) := by
  obtain ⟨hn, hlt⟩ := hM.new (a := a) (by omega) (by omega) (by omega) (by omega)
  refine ⟨hn, ?_⟩
  rcases hM.2.2.1 a hn hlt with ⟨q, -⟩ | ⟨-, q⟩ | ⟨q, -⟩ | ⟨q, -⟩
  · omega
  · exact q
  · omega
  · omega
theorem RelM.arq (hM : RelM Γ M H) {a : Nat} (ha : 22 ≤ pKd M a ∧ pKd M a < 28) : nwP Γ a ∧ H[adF Γ a]? = some (arrV (cxC Γ (pKd M a - 20)) (pLn M a) (fun j => va_rf ((pR M a j).map (adF Γ)))) := by
  obtain ⟨hn, hlt⟩ := hM.new (a := a) (by omega) (by omega) (by omega) (by omega)
  refine ⟨hn, ?_⟩
  rcases hM.2.2.1 a hn hlt with ⟨q, -⟩ | ⟨q, -⟩ | ⟨-, -, q⟩ | ⟨q, -⟩
  · omega
  · omega
  · exact q
  · omega
/-- a new row of bytes -/
theorem RelM.arb (hM : RelM Γ M H) {a : Nat} (ha : pKd M a = 21) (hn : nwP Γ a) : H[adF Γ a]? = some (arrV (cxC Γ 1) (pLn M a) (fun j => .int (pI M a j))) ∧ ∀ j, bytP (pI M a j) := by
  have hlt : a < pSz M := Nat.not_le.mp fun q => by
    have := hM.2.2.2.2.1 a q
    omega
  rcases hM.2.2.1 a hn hlt with ⟨q, -⟩ | ⟨q, -⟩ | ⟨q, q2, -⟩ | ⟨-, q⟩
  · omega
  · omega
  · omega
  · exact q
theorem nw159 {a : Nat} (h : 159 ≤ a) : nwP Γ a := Or.inl h
theorem teF_eq {M' : PM} {a c0 k : Nat} (h3 : pI M' a k = pI M a k) (h4 : pR M' a k = pR M a k) : teF Γ M' a c0 k = teF Γ M a c0 k := by
  unfold teF
  rw [h3, h4]
theorem m_get (hx : p.tables.exec = Jvm.exec) (hb : c.code = cc) {o i k0 k a : Nat} (hown : s.vm.findClass (cNm o) = some m.cls) (hE : EO Γ s) (hM : RelM Γ M H) (ha : pKd M a = k0) (hk0 : k0 < 14) (hnw : nwP Γ a) (hk : k < nfL.getD k0 0) (ht : (o, i, k0, k) ∈ fTab)
    (hdg : decode cc pc = .ok (.getfield i, 3)) (kk : W p l e R s m args below meth c H locs cells slots Q (F0 m (pc + 3) lk (teF Γ M a k0 k :: rest))) : W p l e R s m args below meth c H locs cells slots Q (F0 m pc lk (.ref (adF Γ a) :: rest)) := by
  obtain ⟨T, N, ty, hc, hN, hws, hty, hnm, -, hnms⟩ := clF_all hE _ hk0
  obtain ⟨cell, q1, q2, q3, q4⟩ := hM.obj ha hk0 hnw
  obtain ⟨hS, hfc, kC, hkC, hkind⟩ := hE.2.1.1 _ _ hc
  rw [← hN] at q4 hk
  obtain ⟨cf, kf, fi, f, hi, hsl⟩ := hS k hk
  obtain ⟨n1, n2, n3, -⟩ := hnms k hk
  have hst := (u_facts hfc hkC (u_lays (fun w hw => hws args w hw) (fun w h => h) hk) hi).1
  have hi' : s.fieldFound? (fCl k0 k) (fNm k0 k) (fDs k0 k) = some (cf, kf, fi, f) := by rw [← n1, ← n2, ← n3]; exact hi
  obtain ⟨b, hw⟩ := w_fT _ ht
  cases b with
  | true =>
    refine va_Wgetf hx hb hown (hE.1 _ hw rfl args) hi' hst q1 (by rw [q3]; exact fun h => by cases h) (v := teF Γ M a k0 k) ?_ rfl rfl hdg kk
    rw [hsl]
    exact q4 k hk
  | false =>
    refine W.getf hx hb hown (hE.1 _ hw rfl args) hi' hst q1 (by rw [q3]; exact fun h => by cases h) (v := teF Γ M a k0 k) ?_ rfl rfl hdg kk
    rw [hsl]
    exact q4 k hk
theorem m_getS (hx : p.tables.exec = Jvm.exec) (hb : c.code = cc) {o i k a : Nat} (hown : s.vm.findClass (cNm o) = some m.cls) (hE : EO Γ s) (hH : EH Γ s s.heap) (hM : RelM Γ M H) (hS : va_S (AF Γ) s.heap H locs) {j : Nat} (hj : j < nStr) (ea : a = plS j) (hk : k < 2) (ht : (o, i, 13, k) ∈ fTab)
    (hdg : decode cc pc = .ok (.getfield i, 3)) (kk : W p l e R s m args below meth c H locs cells slots Q (F0 m (pc + 3) lk (teF Γ M a 13 k :: rest))) : W p l e R s m args below meth c H locs cells slots Q (F0 m pc lk (.ref (adF Γ a) :: rest)) := by
  subst ea
  obtain ⟨-, -, -, h1, -, -⟩ := hM.2.2.2.1
  have hG := hM.2.2.2.2.2.2
  have hp := plS_lt hj
  obtain ⟨-, z2, z3, -⟩ := h1 j hj
  obtain ⟨g1, g2, g3, g4⟩ := hH.1 j hj
  have e1 : adF Γ (plS j) = cxA Γ (plS j) := adF_old (by omega) (by omega) hG
  have e2 : adF Γ (plS j + 1) = cxA Γ (plS j + 1) := adF_old (by omega) (by omega) hG
  obtain ⟨b, hw, hwp⟩ := w_fT2 _ ht
  rw [e1]
  rcases (by omega : k = 0 ∨ k = 1) with rfl | rfl
  · have et : teF Γ M (plS j) 13 0 = .ref (cxA Γ (plS j + 1)) := by
      show va_rf ((pR M (plS j) 0).map (adF Γ)) = _
      rw [z2]
      show Value.ref (adF Γ _) = _
      rw [e2]
    rw [et] at kk
    cases b with
    | true => exact absurd hwp (by simp)
    | false => exact vk_getf hx hb g3 hS hown (hE.1 _ hw rfl args) (fun _ h => h) hdg kk
  · have et : teF Γ M (plS j) 13 1 = .int 0 := by
      show Value.int (pI M (plS j) 1) = _
      rw [z3]
    rw [et] at kk
    cases b with
    | true => exact absurd hwp (by simp)
    | false => exact vk_getf hx hb g2 hS hown (hE.1 _ hw rfl args) (fun _ h => h) hdg kk
/-- a final field is found in its own class -/
theorem fCl_own0 : (List.range 14).all (fun c => (List.range (nfL.getD c 0)).all (fun k => !((fnL.getD c []).getD k true) || decide (fCl c k = cNm c))) = true := by decide +kernel
theorem fCl_own {c k : Nat} (hc : c < 14) (hk : k < nfL.getD c 0) (h : (fnL.getD c []).getD k true = true) : fCl c k = cNm c := by
  have := List.all_eq_true.mp (List.all_eq_true.mp fCl_own0 c (List.mem_range.mpr hc)) k (List.mem_range.mpr hk)
  rw [h] at this
  simpa using this
theorem m_put (hx : p.tables.exec = Jvm.exec) (hb : c.code = cc) {o i k0 k a : Nat} (hown : s.vm.findClass (cNm o) = some m.cls) (hE : EO Γ s) (hM : RelM Γ M H) (hS : va_S (AF Γ) s.heap H locs) (ha : pKd M a = k0) (hk0 : k0 < 14) (hnw : nwP Γ a) (hk : k < nfL.getD k0 0) (ht : (o, i, k0, k) ∈ fTab)
    (hfin : (fnL.getD k0 []).getD k true = false ∨ (meth.name = "<init>" ∧ o = k0)) {v : Value} {M' : PM} (h0 : pSz M' = pSz M) (h1 : pKd M' = pKd M) (h2 : pLn M' = pLn M) (h3 : ∀ b j, b ≠ a ∨ j ≠ k → pI M' b j = pI M b j) (h4 : ∀ b j, b ≠ a ∨ j ≠ k → pR M' b j = pR M b j) (hv : teF Γ M' a k0 k = v)
    (hty : (XF.2 k0 k = 0 ∧ ∃ x, v = .int x) ∨ (XF.2 k0 k = 2 ∧ (v = .int 0 ∨ v = .int 1)) ∨ (XF.2 k0 k = 1 ∧ ∃ r, v = va_rf r) ∨ (XF.2 k0 k = 3 ∧ ∃ x, v = .int x ∧ bytP x))
    (hdg : decode cc pc = .ok (.putfield i, 3)) (kk : ∀ (H1 : Heap) (locs1 : List Loc), RelM Γ M' H1 → va_S (AF Γ) s.heap H1 locs1 → W p l e R s m args below meth c H1 locs1 cells slots Q (F0 m (pc + 3) lk rest)) : W p l e R s m args below meth c H locs cells slots Q (F0 m pc lk (v :: .ref (adF Γ a) :: rest)) := by
  obtain ⟨T, N, ty, hc, hN, hws, hpt, hnm, hxf, hnms⟩ := clF_all hE _ hk0
  obtain ⟨cell, q1, q2, q3, q4⟩ := hM.obj ha hk0 hnw
  obtain ⟨hSl, hfc, kC, hkC, hkind⟩ := hE.2.1.1 _ _ hc
  have hap := va_apart (own := cNm o) (fun w hw => hws args w hw) (fun w h => h) ty hpt hnm hE.2.1 hc
  rw [← hN] at q4 hk
  obtain ⟨cf, kf, fi, f, hi, hsl⟩ := hSl k hk
  obtain ⟨n1, n2, n3, n4⟩ := hnms k hk
  have hlay0 := hws args _ (u_in_lay hk)
  have hst := (u_facts hfc hkC (u_lays (fun w hw => hws args w hw) (fun w h => h) hk) hi).1
  have hi' : s.fieldFound? (fCl k0 k) (fNm k0 k) (fDs k0 k) = some (cf, kf, fi, f) := by rw [← n1, ← n2, ← n3]; exact hi
  have hnf : narrow (ty k) v = v ∧ fits (ty k) v = true := by
    have e0 := hxf k hk
    rcases hty with ⟨q, x, rfl⟩ | ⟨q, rfl | rfl⟩ | ⟨q, r, rfl⟩ | ⟨q, x, rfl, hbx⟩
    · rw [q] at e0
      cases hq : ty k <;> rw [hq] at e0 <;> first | exact ⟨rfl, rfl⟩ | cases e0
    · rw [q] at e0
      cases hq : ty k <;> rw [hq] at e0 <;> first | exact ⟨rfl, rfl⟩ | cases e0
    · rw [q] at e0
      cases hq : ty k <;> rw [hq] at e0 <;> first | exact ⟨rfl, rfl⟩ | cases e0
    · rw [q] at e0
      cases hq : ty k <;> rw [hq] at e0 <;> first | (cases r <;> exact ⟨rfl, rfl⟩) | cases e0
    · rw [q] at e0
      cases hq : ty k <;> rw [hq] at e0 <;> first | exact ⟨congrArg Value.int hbx, by have h9 : narrow .byte (.int x) = .int x := congrArg Value.int hbx; have h8 := bytP_rng hbx; simp [fits, h8.1, h8.2]⟩ | cases e0
  have hrel : ∀ H' : Heap, H'[adF Γ a]? = some (cell.setSlot ((cxD Γ).2 k0 k) v) → H'.size = H.size → (∀ q, q ≠ adF Γ a → H'[q]? = H[q]?) → RelM Γ M' H' := by
    intro H' e1 e2 e3
    refine hM.upd hnw h0 h1 h2 (fun b hb => funext fun j => h3 b j (Or.inl hb)) (fun b hb => funext fun j => h4 b j (Or.inl hb)) (Or.inl ⟨by rw [h1, ha]; exact hk0, ?_⟩) e2 e3
    rw [h1, ha]
    refine ⟨_, e1, q2, q3, fun j hj => ?_⟩
    rw [← hN] at hj
    rw [t_set q4 hap hk v j hj]
    by_cases hjk : j = k
    · subst hjk
      simp [updV, hv]
    · simp only [updV, if_neg hjk]
      rw [teF_eq (h3 a j (Or.inr hjk)) (h4 a j (Or.inr hjk))]
  obtain ⟨b, hw, hwp⟩ := w_fT2 _ ht
  by_cases hff : (T k).2.2.2 = true
  · have hi2 : meth.name = "<init>" ∧ o = k0 := by
      rcases hfin with q | q
      · rw [n4, q] at hff
        cases hff
      · exact q
    have hlay := hlay0
    unfold u_lay at hlay
    rw [if_pos hff] at hlay
    have hcf : m.cls = cf := by
      obtain ⟨_, _, c', _, _, _, -, -, hf', -, -, -, hown2, -⟩ := Cond.laysFinal_spec hlay
      have e1 : c' = cf := by have := hi.symm.trans hf'; simp at this; exact this.1.symm
      rw [n1, fCl_own hk0 (by rw [← hN]; exact hk) (by rw [← n4]; exact hff), ← hi2.2] at hown2
      rw [← e1]
      exact Option.some.inj (hown.symm.trans hown2)
    have h6 := u_fits hfc hkC hkind (Or.inr hlay) hi (hpt k hk) hnf.1 hnf.2
    cases b with
    | true => exact absurd hwp (by simp [hi2.2])
    | false =>
      refine W.putFinK hx hb hown (hE.1 _ hw rfl args) hi' hst hcf hi2.1 (by rw [q2]; exact h6) q1 q3 (by rw [hsl]; exact k2_hasslot (q4 k hk)) rfl rfl hdg fun H' e1 e2 e3 => ?_
      rw [hsl] at e1 ⊢
      exact kk H' _ (hrel H' e1 e2 e3) (hS.put e2 e3 (adF_A hnw))
  · have hlay := hlay0
    unfold u_lay at hlay
    rw [if_neg hff] at hlay
    have h6 := u_store hfc hkC hkind hlay hi (hpt k hk) hnf.1 hnf.2
    cases b with
    | true =>
      refine va_WputK hx hb (f := f) hown (hE.1 _ hw rfl args) hi' hst (by rw [q2]; exact h6) q1 q3 (by rw [hsl]; exact k2_hasslot (q4 k hk)) rfl rfl hdg fun H' e1 e2 e3 => ?_
      rw [hsl] at e1 ⊢
      exact kk H' _ (hrel H' e1 e2 e3) (hS.put e2 e3 (adF_A hnw))
    | false =>
      refine W.putK hx hb (f := f) ⟨hown, hE.1 _ hw rfl args, ⟨_, _, _, hi'⟩, hst⟩ (by rw [q2]; exact h6) q1 q3 (by rw [hsl]; exact k2_hasslot (q4 k hk)) rfl rfl hdg fun H' e1 e2 e3 => ?_
      rw [hsl] at e1 ⊢
      exact kk H' _ (hrel H' e1 e2 e3) (hS.put e2 e3 (adF_A hnw))
theorem m_new (hx : p.tables.exec = Jvm.exec) (hb : c.code = cc) {o i k0 : Nat} (hown : s.vm.findClass (cNm o) = some m.cls) (hE : EO Γ s) (hM : RelM Γ M H) (hS : va_S (AF Γ) s.heap H locs) (hk0 : k0 < 14) (ht : (o, i, k0) ∈ nTab) (hcells : cells + 1 ≤ R.cells) (hslots : slots + nfL.getD k0 0 ≤ R.slots)
    (hdg : decode cc pc = .ok (.new i, 3)) (kk : ∀ (H1 : Heap), RelM Γ (mkN M k0 (nfL.getD k0 0)) H1 → va_S (AF Γ) s.heap H1 locs → W p l e R s m args below meth c H1 locs (cells + 1) (slots + nfL.getD k0 0) Q (F0 m (pc + 3) lk (.ref (adF Γ (pSz M)) :: rest))) : W p l e R s m args below meth c H locs cells slots Q (F0 m pc lk rest) := by
  obtain ⟨T, N, ty, hc, hN, hws, hpt, hnm, hxf, hnms⟩ := clF_all hE _ hk0
  have hKn := hE.2.1.1 _ _ hc
  have ead : adF Γ (pSz M) = H.size := hM.end_ad
  refine W.newcK hx hb hown (hE.1 _ (w_nT _ ht) rfl args) (hE.1 _ (w_new hk0) rfl args) (hE.1 _ (w_init (Nat.lt_trans hk0 (by decide))) rfl args) rfl hdg hcells hslots hKn.2.1 rfl fun H1 kC hkC e1 z1 o1 => ?_
  rw [← ead]
  refine kk H1 (hM.mk (fun M' hM' hq => Or.inl ⟨?_, ?_⟩) z1 o1) ⟨Nat.le_trans hS.1 (by omega), fun x h1 h2 => (o1 x (Nat.lt_of_lt_of_le h1 hS.1)).trans (hS.2.1 x h1 h2), hS.2.2⟩
  · rw [hM', show pKd (mkN M k0 (nfL.getD k0 0)) (pSz M) = k0 from if_pos rfl]
    exact hk0
  · rw [hM', show pKd (mkN M k0 (nfL.getD k0 0)) (pSz M) = k0 from if_pos rfl, hq, ← hN]
    refine (u_born ty (fun w hw => hws args w hw) (fun w h => h) hKn hkC e1 hpt).to (fun k hk => ?_)
    have e0 := hxf k hk
    unfold teF
    have r1 : pI (mkN M k0 N) (pSz M) k = 0 := if_pos rfl
    have r2 : pR (mkN M k0 N) (pSz M) k = none := if_pos rfl
    rw [r1, r2, e0]
    have hq2 : tyCd (ty k) ≠ 9 := by
      rw [← e0]
      have : (List.range 14).all (fun c => (List.range (nfL.getD c 0)).all (fun k => !decide (XF.2 c k = 9))) = true := by decide +kernel
      have z1 := List.all_eq_true.mp (List.all_eq_true.mp this k0 (List.mem_range.mpr hk0)) k (List.mem_range.mpr (by rw [← hN]; exact hk))
      simpa using z1
    cases hq : ty k <;> rw [hq] at hq2 <;> first | rfl | exact absurd rfl hq2
theorem m_newi (hx : p.tables.exec = Jvm.exec) (hb : c.code = cc) (hE : EO Γ s) (hM : RelM Γ M H) (hS : va_S (AF Γ) s.heap H locs) {n : Int32} (h1 : 0 ≤ n.toInt) (h2 : n.toInt ≤ 100000) (hcells : cells + 1 ≤ R.cells) (hslots : slots + ixN n ≤ R.slots)
    (hdg : decode cc pc = .ok (.newarray .int, 2)) (kk : ∀ (H1 : Heap), RelM Γ (mkN M kInt (ixN n)) H1 → va_S (AF Γ) s.heap H1 locs → W p l e R s m args below meth c H1 locs (cells + 1) (slots + ixN n) Q (F0 m (pc + 2) lk (.ref (adF Γ (pSz M)) :: rest))) : W p l e R s m args below meth c H locs cells slots Q (F0 m pc lk (.int n :: rest)) := by
  have ead : adF Γ (pSz M) = H.size := hM.end_ad
  have hn : ¬ n < 0 := fun q => by have := Int32.lt_iff_toInt_lt.mp q; simp at this; omega
  refine va_newaK (atype := .int) (N := ixN n) hx hb (hE.1 _ w_aci rfl args) rfl hdg rfl hn rfl (by show ixN n * 4 ≤ _; unfold ixN; omega) hcells hslots rfl fun H1 cA e1 z1 o1 hAr hfc => ?_
  rw [← ead]
  have hcA : cA = cxC Γ 0 := by
    obtain ⟨c0, g1, g2⟩ := hE.2.2.2.2.2.1
    have : s.vm.findClass "[I" = some cA := hfc
    rw [g1] at this
    cases this
    exact g2
  refine kk H1 (hM.mk (fun M' hM' hq => Or.inr (Or.inl ⟨?_, ?_⟩)) z1 o1) ⟨Nat.le_trans hS.1 (by omega), fun x h1 h2 => (o1 x (Nat.lt_of_lt_of_le h1 hS.1)).trans (hS.2.1 x h1 h2), hS.2.2⟩
  · rw [hM']
    exact if_pos rfl
  · rw [hM', hq, e1, hcA, show pLn (mkN M kInt (ixN n)) (pSz M) = ixN n from if_pos rfl]
    congr 1
    have : (fun j => Value.int (pI (mkN M kInt (ixN n)) (pSz M) j)) = fun _ => Value.int 0 := funext fun j => by rw [show pI (mkN M kInt (ixN n)) (pSz M) j = 0 from if_pos rfl]
    rw [this]
    rfl
theorem m_newq (hx : p.tables.exec = Jvm.exec) (hb : c.code = cc) {o i k0 : Nat} (hown : s.vm.findClass (cNm o) = some m.cls) (hE : EO Γ s) (hM : RelM Γ M H) (hS : va_S (AF Γ) s.heap H locs) (hk : 22 ≤ k0 ∧ k0 < 27) (ht : (o, i, eCl k0) ∈ nTab) {n : Int32} (h1 : 0 ≤ n.toInt) (h2 : n.toInt ≤ 100000) (hcells : cells + 1 ≤ R.cells) (hslots : slots + ixN n ≤ R.slots)
    (hdg : decode cc pc = .ok (.anewarray i, 3)) (kk : ∀ (H1 : Heap), RelM Γ (mkN M k0 (ixN n)) H1 → va_S (AF Γ) s.heap H1 locs → W p l e R s m args below meth c H1 locs (cells + 1) (slots + ixN n) Q (F0 m (pc + 3) lk (.ref (adF Γ (pSz M)) :: rest))) : W p l e R s m args below meth c H locs cells slots Q (F0 m pc lk (.int n :: rest)) := by
  have ead : adF Γ (pSz M) = H.size := hM.end_ad
  have hn : ¬ n < 0 := fun q => by have := Int32.lt_iff_toInt_lt.mp q; simp at this; omega
  have hmem : eCl k0 ∈ [2, 4, 6, 7, 13] := by rcases (by omega : k0 = 22 ∨ k0 = 23 ∨ k0 = 24 ∨ k0 = 25 ∨ k0 = 26) with rfl | rfl | rfl | rfl | rfl <;> decide
  have hty : (tysL (cxC Γ))[k0 - 20]? = some (cxC Γ (k0 - 20), .object (cNm (eCl k0))) := by rcases (by omega : k0 = 22 ∨ k0 = 23 ∨ k0 = 24 ∨ k0 = 25 ∨ k0 = 26) with rfl | rfl | rfl | rfl | rfl <;> rfl
  refine W.anew hx hb hown (hE.1 _ (w_nT _ ht) rfl args) (va_AO.use (hE.2.2.2.2.1 _ hmem)) rfl hdg rfl hn (by show ixN n * 4 ≤ _; unfold ixN; omega) hcells hslots fun cA kA comp f1 f2 f3 f4 => ?_
  generalize hH1 : H.push ({ cls := cA, slots := Array.replicate n.toNatClampNeg .null, vm := .none } : Cell) = H1
  have z1 : H1.size = H.size + 1 := by rw [← hH1, Array.size_push]
  have e1 : H1[H.size]? = some (arrV cA n.toNatClampNeg (fun _ => .null)) := by rw [← hH1, Array.getElem?_push_size, ← arrV_new]
  have o1 : ∀ q : Nat, q < H.size → H1[q]? = H[q]? := fun q hq => by rw [← hH1, Array.getElem?_push, if_neg (Nat.ne_of_lt hq)]
  rw [← ead]
  have hcA : cA = cxC Γ (k0 - 20) := by
    obtain ⟨-, kA', comp', g1, g2, g3, g4⟩ := hE.2.1.2 _ _ hty
    rw [f1] at g4
    cases g4
    rfl
  refine kk H1 (hM.mk (fun M' hM' hq => Or.inr (Or.inr (Or.inl ?_))) z1 o1) ⟨Nat.le_trans hS.1 (by omega), fun x h1 h2 => (o1 x (Nat.lt_of_lt_of_le h1 hS.1)).trans (hS.2.1 x h1 h2), hS.2.2⟩
  have r0 : pKd M' (pSz M) = k0 := by rw [hM']; exact if_pos rfl
  rw [r0]
  refine ⟨hk.1, by omega, ?_⟩
  rw [hM', hq, e1, hcA, show pLn (mkN M k0 (ixN n)) (pSz M) = ixN n from if_pos rfl]
  have : (fun j => va_rf ((pR (mkN M k0 (ixN n)) (pSz M) j).map (adF Γ))) = fun _ => Value.null := funext fun j => by rw [show pR (mkN M k0 (ixN n)) (pSz M) j = none from if_pos rfl]; rfl
  rw [this]
  rfl
theorem bytP0 : bytP 0 := show ((0 : Int32).toInt8.toInt32 = 0) from by decide
theorem m_newb (hx : p.tables.exec = Jvm.exec) (hb : c.code = cc) (hE : EO Γ s) (hM : RelM Γ M H) (hS : va_S (AF Γ) s.heap H locs) {n : Int32} (h1 : 0 ≤ n.toInt) (h2 : n.toInt ≤ 100000) (hcells : cells + 1 ≤ R.cells) (hslots : slots + ixN n ≤ R.slots)
    (hdg : decode cc pc = .ok (.newarray .byte, 2)) (kk : ∀ (H1 : Heap), RelM Γ (mkN M kByt (ixN n)) H1 → va_S (AF Γ) s.heap H1 locs → W p l e R s m args below meth c H1 locs (cells + 1) (slots + ixN n) Q (F0 m (pc + 2) lk (.ref (adF Γ (pSz M)) :: rest))) : W p l e R s m args below meth c H locs cells slots Q (F0 m pc lk (.int n :: rest)) := by
  have ead : adF Γ (pSz M) = H.size := hM.end_ad
  have hn : ¬ n < 0 := fun q => by have := Int32.lt_iff_toInt_lt.mp q; simp at this; omega
  refine va_newaK (atype := .byte) (N := ixN n) hx hb (hE.1 _ w_acb rfl args) rfl hdg rfl hn rfl (by show ixN n * 1 ≤ _; unfold ixN; omega) hcells hslots rfl fun H1 cA e1 z1 o1 hAr hfc => ?_
  rw [← ead]
  have hcA : cA = cxC Γ 1 := by
    obtain ⟨c0, g1, g2⟩ := hE.2.2.2.2.2.2.2.1
    have : s.vm.findClass "[B" = some cA := hfc
    rw [g1] at this
    cases this
    exact g2
  have ez : ∀ j, pI (mkN M kByt (ixN n)) (pSz M) j = 0 := fun j => if_pos rfl
  refine kk H1 (hM.mk (fun M' hM' hq => Or.inr (Or.inr (Or.inr ⟨?_, ?_, ?_⟩))) z1 o1) ⟨Nat.le_trans hS.1 (by omega), fun x h1 h2 => (o1 x (Nat.lt_of_lt_of_le h1 hS.1)).trans (hS.2.1 x h1 h2), hS.2.2⟩
  · rw [hM']
    exact if_pos rfl
  · rw [hM', hq, e1, hcA, show pLn (mkN M kByt (ixN n)) (pSz M) = ixN n from if_pos rfl]
    congr 1
    have : (fun j => Value.int (pI (mkN M kByt (ixN n)) (pSz M) j)) = fun _ => Value.int 0 := funext fun j => by rw [ez]
    rw [this]
    rfl
  · rw [hM']
    intro j
    rw [ez]
    exact bytP0
theorem outerV (cA : ClassId) (n h0 : Nat) : ∀ i : Nat, Jvm.Free.Multi.outerC cA n h0 i = arrV cA n (fun j => va_rf (if j < i then some (h0 + 1 + j) else none))
  | 0 => (arrV_new cA n Value.null).trans (by
    refine congrArg (arrV cA n) (funext fun j => ?_)
    rw [if_neg (Nat.not_lt_zero j)]
    rfl)
  | i + 1 => by
    show (Jvm.Free.Multi.outerC cA n h0 i).setSlot i (.ref (h0 + 1 + i)) = _
    rw [outerV cA n h0 i, arrV_store]
    refine congrArg (arrV cA n) (funext fun j => ?_)
    by_cases e : j = i
    · subst e
      simp [updV, va_rf]
    · by_cases h : j < i
      · simp [updV, e, h, Nat.lt_succ_of_lt h]
      · simp [updV, e, h, show ¬ j < i + 1 by omega]
theorem m_mna (hx : p.tables.exec = Jvm.exec) (hb : c.code = cc) (hown : s.vm.findClass (cNm 18) = some m.cls) (hE : EO Γ s) (hM : RelM Γ M H) (hS : va_S (AF Γ) s.heap H locs) {n k : Int32} (h1 : 0 ≤ n.toInt) (h2 : n.toInt ≤ 1000) (h3 : 0 ≤ k.toInt) (h4 : k.toInt ≤ 1000) (hcells : cells + (1 + ixN n) ≤ R.cells) (hslots : slots + (ixN n + ixN n * ixN k) ≤ R.slots)
    (hdg : decode cc pc = .ok (.multianewarray 37 2, 4)) (kk : ∀ (H1 : Heap), RelM Γ (mkG M (ixN n) (ixN k)) H1 → va_S (AF Γ) s.heap H1 locs → W p l e R s m args below meth c H1 locs (cells + 1 + ixN n) (slots + ixN n + ixN n * ixN k) Q (F0 m (pc + 4) lk (.ref (adF Γ (pSz M)) :: rest))) : W p l e R s m args below meth c H locs cells slots Q (F0 m pc lk (.int k :: .int n :: rest)) := by
  have ead : adF Γ (pSz M) = H.size := hM.end_ad
  have ng : ∀ z : Int32, 0 ≤ z.toInt → ¬ z < 0 := fun z hz q => by have := Int32.lt_iff_toInt_lt.mp q; simp at this; omega
  intro T hT X
  obtain ⟨vm₁, cA, comp, -, fA, fC, -, -, X', step⟩ := X.multianewarray2F (own := cNm 18) (index := 37) (ty := .int) hx hown (show (Cond.classLink (cNm 18) 37 ("[" ++ (FieldType.array .int).toString)).before args s = true from hE.1 _ w_mnL rfl args) (va_AOA.use hE.2.2.2.2.2.2.2.2.1) (hE.1 _ w_aci rfl args) (g := F0 m pc lk (.int k :: .int n :: rest)) rfl (by rw [hb]; exact hdg) rfl (ng _ h1) (ng _ h3) (by show ixN n * 4 ≤ _; unfold ixN; omega) (by show ixN k * 4 ≤ _; unfold ixN; omega) (by show ixN k ≤ _; unfold ixN; omega) rfl rfl hcells hslots
  have hA : cA = cxC Γ 7 := by
    obtain ⟨c0, g1, g2⟩ := hE.2.2.2.2.2.2.2.2.2.1
    have : s.vm.findClass "[[I" = some cA := fA
    rw [g1] at this
    cases this
    exact g2
  have hC : comp = cxC Γ 0 := by
    obtain ⟨c0, g1, g2⟩ := hE.2.2.2.2.2.1
    have : s.vm.findClass "[I" = some comp := fC
    rw [g1] at this
    cases this
    exact g2
  subst hA hC
  have eN : n.toNatClampNeg = ixN n := rfl
  have eK : k.toNatClampNeg = ixN k := rfl
  rw [eN, eK] at X' step
  have hTh : (T.setVm vm₁).heap = H := hT
  generalize hF : Jvm.Free.Multi.fill (T.setVm vm₁) (cxC Γ 7) (cxC Γ 0) (ixN n) (ixN k) (defaultValue .int) (ixN n) = F at X' step
  obtain ⟨f1, f2, -, -⟩ := Jvm.Free.Multi.fill_facts (T.setVm vm₁) (cxC Γ 7) (cxC Γ 0) (ixN n) (ixN k) (defaultValue .int) (ixN n)
  rw [hF, hTh] at f1 f2
  have hold : ∀ x : Nat, x < H.size → F.heap[x]? = H[x]? := fun x hx => by
    have := Jvm.Free.Multi.fill_old (T.setVm vm₁) (cxC Γ 7) (cxC Γ 0) (ixN n) (ixN k) (defaultValue .int) (a := x) (by rw [hTh]; exact hx) (ixN n)
    rw [hF, hTh] at this
    exact this
  have hrow : ∀ j : Nat, j < ixN n → F.heap[H.size + 1 + j]? = some (arrV (cxC Γ 0) (ixN k) (fun _ => .int 0)) := fun j hj => by
    have := Jvm.Free.Multi.fill_inner (T.setVm vm₁) (cxC Γ 7) (cxC Γ 0) (ixN n) (ixN k) (defaultValue .int) (ixN n) j hj
    rw [hF, hTh] at this
    rw [this]
    exact congrArg some (arrV_new (cxC Γ 0) (ixN k) (Value.int 0))
  rw [outerV] at f2
  have z0 : pSz (mkG M (ixN n) (ixN k)) = pSz M + (1 + ixN n) := rfl
  have hrel : RelM Γ (mkG M (ixN n) (ixN k)) F.heap := by
    refine hM.mks (n := 1 + ixN n) rfl (fun b hb => ?_) (fun i hi e => ?_) (by rw [f1]; omega) hold
    · have q1 : ¬ b = pSz M := by omega
      have q2 : ¬ (pSz M < b ∧ b < pSz M + (1 + ixN n)) := by omega
      have q3 : ¬ (pSz M ≤ b ∧ b < pSz M + (1 + ixN n)) := by omega
      refine ⟨?_, ?_, ?_, ?_⟩
      · show (if b = pSz M then 27 else if pSz M < b ∧ b < pSz M + (1 + ixN n) then 20 else pKd M b) = _
        rw [if_neg q1, if_neg q2]
      · show (if b = pSz M then ixN n else if pSz M < b ∧ b < pSz M + (1 + ixN n) then ixN k else pLn M b) = _
        rw [if_neg q1, if_neg q2]
      · funext j
        show (if pSz M ≤ b ∧ b < pSz M + (1 + ixN n) then 0 else pI M b j) = _
        rw [if_neg q3]
      · funext j
        show (if b = pSz M then (if j < ixN n then some (pSz M + 1 + j) else none) else if pSz M < b ∧ b < pSz M + (1 + ixN n) then none else pR M b j) = _
        rw [if_neg q1, if_neg q2]
    · rcases Nat.eq_zero_or_pos i with rfl | hp
      · have k1 : pKd (mkG M (ixN n) (ixN k)) (pSz M) = 27 := if_pos rfl
        refine Or.inr (Or.inr (Or.inl ?_))
        rw [Nat.add_zero, k1]
        refine ⟨by decide, by decide, ?_⟩
        rw [Nat.add_zero, Nat.add_zero] at e
        rw [e, f2]
        have e2 : pLn (mkG M (ixN n) (ixN k)) (pSz M) = ixN n := if_pos rfl
        rw [e2]
        refine congrArg some (congrArg (arrV (cxC Γ 7) (ixN n)) (funext fun j => ?_))
        have e3 : pR (mkG M (ixN n) (ixN k)) (pSz M) j = if j < ixN n then some (pSz M + 1 + j) else none := if_pos rfl
        rw [e3]
        by_cases hj : j < ixN n
        · rw [if_pos hj, if_pos hj]
          show Value.ref _ = Value.ref (adF Γ _)
          have h159 := hM.1
          have e4 : H.size = cxB Γ + (cxG Γ - 45) + (pSz M - 159) := hM.2.1
          rw [adF_159 (by omega)]
          exact congrArg Value.ref (show H.size + 1 + j = cxB Γ + (cxG Γ - 45) + (pSz M + 1 + j - 159) by omega)
        · rw [if_neg hj, if_neg hj]
          rfl
      · have q2 : pSz M < pSz M + i ∧ pSz M + i < pSz M + (1 + ixN n) := by omega
        have q1 : ¬ pSz M + i = pSz M := by omega
        refine Or.inr (Or.inl ⟨?_, ?_⟩)
        · show (if pSz M + i = pSz M then 27 else if pSz M < pSz M + i ∧ pSz M + i < pSz M + (1 + ixN n) then 20 else pKd M (pSz M + i)) = _
          rw [if_neg q1, if_pos q2]
        · rw [e, show H.size + i = H.size + 1 + (i - 1) by omega, hrow (i - 1) (by omega)]
          have e2 : pLn (mkG M (ixN n) (ixN k)) (pSz M + i) = ixN k := by
            show (if pSz M + i = pSz M then ixN n else if pSz M < pSz M + i ∧ pSz M + i < pSz M + (1 + ixN n) then ixN k else pLn M (pSz M + i)) = _
            rw [if_neg q1, if_pos q2]
          rw [e2]
          refine congrArg some (congrArg (arrV (cxC Γ 0) (ixN k)) (funext fun j => ?_))
          show _ = Value.int (if pSz M ≤ pSz M + i ∧ pSz M + i < pSz M + (1 + ixN n) then 0 else pI M (pSz M + i) j)
          rw [if_pos (by omega)]
  obtain ⟨t, a1, b1⟩ := kk F.heap hrel ⟨by rw [f1]; have := hS.1; omega, fun x g1 g2 => (hold x (Nat.lt_of_lt_of_le g1 hS.1)).trans (hS.2.1 x g1 g2), hS.2.2⟩ F rfl X'
  refine ⟨t, step t ?_, b1⟩
  rw [hT, ← ead]
  exact a1
end MEMI
end
section
/-! Instructions over rows; the bytes of the constants and of the digits. -/
theorem strB0 : (List.range nStr).all (fun j => (List.range ((strL.getD j []).length)).all (fun k => decide (((strL.getD j []).getD k 0).toInt8.toInt32 = (strL.getD j []).getD k 0))) = true := by decide +kernel
theorem strB {j k : Nat} (hj : j < nStr) (hk : k < (strL.getD j []).length) : bytP ((strL.getD j []).getD k 0) := by
  have := List.all_eq_true.mp (List.all_eq_true.mp strB0 j (List.mem_range.mpr hj)) k (List.mem_range.mpr hk)
  unfold bytP
  exact of_decide_eq_true this
theorem digB0 : (List.range 2).all (fun w => (List.range 100).all (fun k => decide ((digV w k).toInt8.toInt32 = digV w k))) = true := by decide +kernel
theorem digB {w k : Nat} (hw : w < 2) (hk : k < 100) : bytP (digV w k) := by
  have := List.all_eq_true.mp (List.all_eq_true.mp digB0 w (List.mem_range.mpr hw)) k (List.mem_range.mpr hk)
  unfold bytP
  exact of_decide_eq_true this
theorem isArr_ns {s : State} {cell : Cell} {ty : FieldType} (h : s.isArrayOf cell ty) : cell.vm.isStatics = false := by
  obtain ⟨h1, -⟩ := h
  cases hv : cell.vm <;> first | rfl | exact absurd hv (h1 _)
section MEMA
variable {p : Program} {l : Launch} {e : Env} {R : Room} {s : State} {m : MethodId} {args : Array Value} {below : List Frame} {meth : Method} {c : Code} {H : Heap} {locs : List Loc} {cells slots : Nat} {Q : State → Prop}
variable {Γ : CX} {pc : Nat} {lk : Array Slot} {rest : List Value} {cc : ByteArray} {M : PM}
theorem inB_vp {i : Int32} {n : Nat} (h : inB i n) : vp_in i n := vp_in_iff.mpr h
theorem inB_lt {i : Int32} {n : Nat} (h : inB i n) : ixN i < n := by
  have := h.1
  have := h.2
  unfold ixN
  omega
theorem m_ald (hx : p.tables.exec = Jvm.exec) (hb : c.code = cc) (hE : EO Γ s) (hM : RelM Γ M H) {a : Nat} (ha : pKd M a = 20) {i : Int32} (hi : inB i (pLn M a)) (hdg : decode cc pc = .ok (.iaload, 1))
    (kk : W p l e R s m args below meth c H locs cells slots Q (F0 m (pc + 1) lk (.int (pI M a (ixN i)) :: rest))) : W p l e R s m args below meth c H locs cells slots Q (F0 m pc lk (.int i :: .ref (adF Γ a) :: rest)) := by
  obtain ⟨h45, hc⟩ := hM.arr ha
  exact W.iald (v := .int (pI M a (ixN i))) hx hb hc ((hE.2.1.2 0 _ rfl).1 _ _) (fun q => by cases q) (by show ¬ (i < 0 ∨ (arrV _ _ _).slots.size ≤ _); rw [arrV_size]; exact inB_vp hi) (by show (arrV _ _ _).slots[_]? = _; exact arrV_read _ _ (inB_lt hi)) rfl rfl hdg kk
theorem m_alds (hx : p.tables.exec = Jvm.exec) (hb : c.code = cc) (hH : EH Γ s s.heap) (hM : RelM Γ M H) (hS : va_S (AF Γ) s.heap H locs) {a : Nat} (ha : pKd M a = 19) {i : Int32} (hi : inB i (pLn M a)) (hdg : decode cc pc = .ok (.iaload, 1))
    (kk : W p l e R s m args below meth c H locs cells slots Q (F0 m (pc + 1) lk (.int (pI M a (ixN i)) :: rest))) : W p l e R s m args below meth c H locs cells slots Q (F0 m pc lk (.int i :: .ref (adF Γ a) :: rest)) := by
  have h0 := hM.scr ha
  subst h0
  obtain ⟨-, g1, g2, -⟩ := hM.2.2.2.1
  have e1 : adF Γ 0 = cxA Γ 0 := adF_old (by omega) (by omega) hM.2.2.2.2.2.2
  rw [e1]
  rw [g1] at hi
  refine va_sld hx hb hH.2.2.1 hH.2.2.2.1 hH.2.2.2.2.1 hS (inB_vp hi) hdg ?_
  rw [g2 _ (inB_lt hi)] at kk
  exact kk
theorem m_bald (hx : p.tables.exec = Jvm.exec) (hb : c.code = cc) (hE : EO Γ s) (hH : EH Γ s s.heap) (hM : RelM Γ M H) (hS : va_S (AF Γ) s.heap H locs) {a : Nat} (ha : pKd M a = 21) {i : Int32} (hi : inB i (pLn M a)) (hdg : decode cc pc = .ok (.baload, 1))
    (kk : W p l e R s m args below meth c H locs cells slots Q (F0 m (pc + 1) lk (.int (pI M a (ixN i)) :: rest))) : W p l e R s m args below meth c H locs cells slots Q (F0 m pc lk (.int i :: .ref (adF Γ a) :: rest)) := by
  have hG := hM.2.2.2.2.2.2
  rcases hM.byt ha with ⟨hn, -⟩ | ⟨j, hj, rfl⟩ | ⟨w, hw, rfl⟩
  · obtain ⟨hc, -⟩ := hM.arb ha hn
    exact W.bald (v := .int (pI M a (ixN i))) hx hb hc ((hE.2.1.2 1 _ rfl).1 _ _) (fun q => by cases q) (by show ¬ (i < 0 ∨ (arrV _ _ _).slots.size ≤ _); rw [arrV_size]; exact inB_vp hi) (by show (arrV _ _ _).slots[_]? = _; exact arrV_read _ _ (inB_lt hi)) rfl rfl hdg kk
  · obtain ⟨-, -, -, h1, -, -⟩ := hM.2.2.2.1
    have hp := plS_lt hj
    obtain ⟨-, -, -, -, z5, z6⟩ := h1 j hj
    rw [adF_old (by omega) (by omega) hG]
    rw [z5] at hi
    rw [z6] at kk
    exact va_tb hx hb (hH.1 j hj).2.2.2 hS (inB_vp hi) rfl hdg kk
  · obtain ⟨-, -, -, -, h1, -⟩ := hM.2.2.2.1
    obtain ⟨-, z2, z3⟩ := h1 w hw
    rw [adF_old (by omega) (by omega) hG]
    rw [z2] at hi
    rw [z3 _ (inB_lt hi)] at kk
    exact va_tb hx hb (hH.2.2.2.2.2.2 w hw).2 hS (inB_vp hi) rfl hdg kk
theorem m_alen (hx : p.tables.exec = Jvm.exec) (hb : c.code = cc) (hE : EO Γ s) (hH : EH Γ s s.heap) (hM : RelM Γ M H) (hS : va_S (AF Γ) s.heap H locs) {a : Nat} (ha : 19 ≤ pKd M a ∧ pKd M a < 26) (hdg : decode cc pc = .ok (.arraylength, 1))
    (kk : W p l e R s m args below meth c H locs cells slots Q (F0 m (pc + 1) lk (.int (Int32.ofNat (pLn M a)) :: rest))) : W p l e R s m args below meth c H locs cells slots Q (F0 m pc lk (.ref (adF Γ a) :: rest)) := by
  rcases (by omega : pKd M a = 19 ∨ pKd M a = 20 ∨ pKd M a = 21 ∨ (22 ≤ pKd M a ∧ pKd M a < 26)) with h | h | h | h
  · have h0 := hM.scr h
    subst h0
    obtain ⟨-, g1, -, -⟩ := hM.2.2.2.1
    rw [g1] at kk
    rw [adF_old (by omega) (by omega) hM.2.2.2.2.2.2]
    exact va_slen hx hb hH.2.2.1 hH.2.2.2.1 hH.2.2.2.2.1 hS hdg kk
  · obtain ⟨h45, hc⟩ := hM.arr h
    exact W.alen (n := Int32.ofNat (pLn M a)) hx hb hc ((hE.2.1.2 0 _ rfl).1 _ _) (by rw [arrV_size] <;> rfl) rfl rfl hdg kk
  · have hG := hM.2.2.2.2.2.2
    rcases hM.byt h with ⟨hn, -⟩ | ⟨j, hj, rfl⟩ | ⟨w, hw, rfl⟩
    · obtain ⟨hc, -⟩ := hM.arb h hn
      exact W.alen (n := Int32.ofNat (pLn M a)) hx hb hc ((hE.2.1.2 1 _ rfl).1 _ _) (by rw [arrV_size] <;> rfl) rfl rfl hdg kk
    · obtain ⟨-, -, -, h1, -, -⟩ := hM.2.2.2.1
      have hp := plS_lt hj
      obtain ⟨-, -, -, -, z5, z6⟩ := h1 j hj
      rw [adF_old (by omega) (by omega) hG]
      rw [z5] at kk
      exact va_tlen hx hb (hH.1 j hj).2.2.2 hS rfl hdg kk
    · obtain ⟨-, -, -, -, h1, -⟩ := hM.2.2.2.1
      obtain ⟨-, z2, z3⟩ := h1 w hw
      rw [adF_old (by omega) (by omega) hG]
      rw [z2] at kk
      exact va_tlen hx hb (hH.2.2.2.2.2.2 w hw).2 hS rfl hdg kk
  · obtain ⟨h45, hc⟩ := hM.arq ⟨h.1, by omega⟩
    obtain ⟨C, hty⟩ : ∃ C, (tysL (cxC Γ))[pKd M a - 20]? = some (cxC Γ (pKd M a - 20), .object C) := by rcases (by omega : pKd M a = 22 ∨ pKd M a = 23 ∨ pKd M a = 24 ∨ pKd M a = 25) with q | q | q | q <;> rw [q] <;> exact ⟨_, rfl⟩
    exact W.alen (n := Int32.ofNat (pLn M a)) hx hb hc ((hE.2.1.2 _ _ hty).1 _ _) (by rw [arrV_size] <;> rfl) rfl rfl hdg kk
theorem m_ast (hx : p.tables.exec = Jvm.exec) (hb : c.code = cc) (hE : EO Γ s) (hM : RelM Γ M H) (hS : va_S (AF Γ) s.heap H locs) {a : Nat} (ha : pKd M a = 20) {i v : Int32} (hi : inB i (pLn M a)) (hdg : decode cc pc = .ok (.iastore, 1))
    (kk : ∀ (H1 : Heap) (locs1 : List Loc), RelM Γ (setI M a (ixN i) v) H1 → va_S (AF Γ) s.heap H1 locs1 → W p l e R s m args below meth c H1 locs1 cells slots Q (F0 m (pc + 1) lk rest)) : W p l e R s m args below meth c H locs cells slots Q (F0 m pc lk (.int v :: .int i :: .ref (adF Γ a) :: rest)) := by
  obtain ⟨h45, hc⟩ := hM.arr ha
  refine W.iast hx hb hc ((hE.2.1.2 0 _ rfl).1 _ _) (fun q => by cases q) (by show ¬ (i < 0 ∨ (arrV _ _ _).slots.size ≤ _); rw [arrV_size]; exact inB_vp hi) rfl rfl hdg fun H1 e1 z oq => ?_
  refine kk H1 _ (hM.upd h45 rfl rfl rfl (fun b hb => funext fun j => ?_) (fun b hb => rfl) (Or.inr (Or.inl ⟨ha, ?_⟩)) z oq) (hS.put z oq (adF_A h45))
  · show up2 (pI M) a (ixN i) v b j = _
    simp [up2, hb]
  · rw [e1, arrV_store]
    congr 2
    funext j
    show updV _ _ _ j = Value.int (up2 (pI M) a (ixN i) v a j)
    by_cases hj : j = ixN i
    · subst hj
      simp [updV, up2, ixN]
    · have hj' : ¬ j = i.toNatClampNeg := hj
      simp [updV, up2, hj, hj']
theorem m_aldq (hx : p.tables.exec = Jvm.exec) (hb : c.code = cc) (hE : EO Γ s) (hM : RelM Γ M H) {a : Nat} (ha : 22 ≤ pKd M a ∧ pKd M a < 28) {i : Int32} (hi : inB i (pLn M a)) (hdg : decode cc pc = .ok (.aaload, 1))
    (kk : W p l e R s m args below meth c H locs cells slots Q (F0 m (pc + 1) lk (va_rf ((pR M a (ixN i)).map (adF Γ)) :: rest))) : W p l e R s m args below meth c H locs cells slots Q (F0 m pc lk (.int i :: .ref (adF Γ a) :: rest)) := by
  obtain ⟨h45, hc⟩ := hM.arq ha
  obtain ⟨ty, hty, hre⟩ : ∃ ty, (tysL (cxC Γ))[pKd M a - 20]? = some (cxC Γ (pKd M a - 20), ty) ∧ ty.isReference = true := by rcases (by omega : pKd M a = 22 ∨ pKd M a = 23 ∨ pKd M a = 24 ∨ pKd M a = 25 ∨ pKd M a = 26 ∨ pKd M a = 27) with q | q | q | q | q | q <;> rw [q] <;> exact ⟨_, rfl, rfl⟩
  exact W.aald (v := va_rf ((pR M a (ixN i)).map (adF Γ))) (ty := ty) hx hb hc ((hE.2.1.2 _ _ hty).1 _ _) hre (fun q => by cases q) (by show ¬ (i < 0 ∨ (arrV _ _ _).slots.size ≤ _); rw [arrV_size]; exact inB_vp hi) (by show (arrV _ _ _).slots[_]? = _; exact arrV_read _ _ (inB_lt hi)) rfl rfl hdg kk
theorem m_astq (hx : p.tables.exec = Jvm.exec) (hb : c.code = cc) (hE : EO Γ s) (hH : EH Γ s s.heap) (hM : RelM Γ M H) (hS : va_S (AF Γ) s.heap H locs) {a : Nat} (ha : 22 ≤ pKd M a ∧ pKd M a < 27) {i : Int32} (hi : inB i (pLn M a)) {v : Option Nat} (hv : ∀ b, v = some b → pKd M b = eCl (pKd M a)) (hdg : decode cc pc = .ok (.aastore, 1))
    (kk : ∀ (H1 : Heap) (locs1 : List Loc), RelM Γ (setR M a (ixN i) v) H1 → va_S (AF Γ) s.heap H1 locs1 → W p l e R s m args below meth c H1 locs1 cells slots Q (F0 m (pc + 1) lk rest)) : W p l e R s m args below meth c H locs cells slots Q (F0 m pc lk (va_rf (v.map (adF Γ)) :: .int i :: .ref (adF Γ a) :: rest)) := by
  obtain ⟨h45, hc⟩ := hM.arq ⟨ha.1, by omega⟩
  have hty : (tysL (cxC Γ))[pKd M a - 20]? = some (cxC Γ (pKd M a - 20), .object (cNm (eCl (pKd M a)))) := by rcases (by omega : pKd M a = 22 ∨ pKd M a = 23 ∨ pKd M a = 24 ∨ pKd M a = 25 ∨ pKd M a = 26) with q | q | q | q | q <;> rw [q] <;> rfl
  have hlt : eCl (pKd M a) < 14 := by rcases (by omega : pKd M a = 22 ∨ pKd M a = 23 ∨ pKd M a = 24 ∨ pKd M a = 25 ∨ pKd M a = 26) with q | q | q | q | q <;> rw [q] <;> decide
  have hfin : ∀ H1 : Heap, H1[adF Γ a]? = some ((arrV (cxC Γ (pKd M a - 20)) (pLn M a) (fun j => va_rf ((pR M a j).map (adF Γ)))).setSlot i.toNatClampNeg (va_rf (v.map (adF Γ)))) → H1.size = H.size → (∀ q, q ≠ adF Γ a → H1[q]? = H[q]?) → RelM Γ (setR M a (ixN i) v) H1 := by
    intro H1 e1 z oq
    refine hM.upd h45 rfl rfl rfl (fun b hb => rfl) (fun b hb => funext fun j => ?_) (Or.inr (Or.inr (Or.inl ⟨ha.1, Nat.lt_succ_of_lt ha.2, ?_⟩))) z oq
    · show up2 (pR M) a (ixN i) v b j = _
      simp [up2, hb]
    · rw [e1, arrV_store]
      show some (arrV (cxC Γ (pKd M a - 20)) (pLn M a) _) = some (arrV (cxC Γ (pKd M a - 20)) (pLn M a) _)
      congr 2
      funext j
      show updV _ _ _ j = va_rf ((up2 (pR M) a (ixN i) v a j).map (adF Γ))
      by_cases hj : j = ixN i
      · subst hj
        simp [updV, up2, ixN]
      · have hj' : ¬ j = i.toNatClampNeg := hj
        simp [updV, up2, hj, hj']
  cases v with
  | none =>
    refine va_WaastN (C := cNm (eCl (pKd M a))) hx hb hc ((hE.2.1.2 _ _ hty).1 _ _) (fun h => by cases h) (by show ¬ (i < 0 ∨ (arrV _ _ _).slots.size ≤ _); rw [arrV_size]; exact inB_vp hi) rfl rfl hdg fun H1 e1 z oq => ?_
    exact kk H1 _ (hfin H1 e1 z oq) (hS.put z oq (adF_A h45))
  | some b =>
    obtain ⟨T, N, ty, hcl, -⟩ := clF_all hE _ hlt
    have hcls := (hE.2.1.1 _ _ hcl).2
    obtain ⟨cellV, g1, g2, g3⟩ : ∃ cellV : Cell, H[adF Γ b]? = some cellV ∧ cellV.cls = (cxD Γ).1 (eCl (pKd M a)) ∧ (∀ k, cellV.vm ≠ .statics k) := by
      by_cases hbn : nwP Γ b
      · obtain ⟨cellV, g1, g2, g3, -⟩ := hM.obj (hv b rfl) hlt hbn
        exact ⟨cellV, g1, g2, fun k h => by rw [g3] at h; cases h⟩
      · have e13 : eCl (pKd M a) = 13 := by
          by_cases h13 : pKd M b < 13
          · exact absurd (hM.nw13 h13) hbn
          · have := hv b rfl
            omega
        obtain ⟨j, hj, rfl⟩ := (hM.str ((hv b rfl).trans e13)).resolve_left (fun q => hbn q.1)
        have hp := plS_lt hj
        rw [adF_old (by omega) (by omega) hM.2.2.2.2.2.2]
        obtain ⟨cell, c1, c2, c3, -⟩ := (hH.1 j hj).1.kept hS.2.1
        refine ⟨cell, c1, ?_, fun k h => by rw [h] at c2; cases c2⟩
        have hf := hcls.1
        rw [e13] at hf ⊢
        have hf' : s.vm.findClass "java/lang/String" = some ((cxD Γ).1 13) := hf
        rw [hf'] at c3
        exact (Option.some.inj c3).symm
    obtain ⟨kA, comp, k1, k2, k3, -⟩ := (hE.2.1.2 _ _ hty).2
    have hcomp : comp = (cxD Γ).1 (eCl (pKd M a)) := Option.some.inj (k3.symm.trans hcls.1)
    subst hcomp
    obtain ⟨kC, hkC, -⟩ := hcls.2
    refine W.aast hx hb hc (fun q h => by cases h) (fun h => by cases h) k1 k2 rfl hkC ⟨(fun q => inB_vp hi (Or.inl q)), by show _ < (arrV _ _ _).slots.size; rw [arrV_size]; exact inB_lt hi⟩ g1 g3 (by rw [g2]; exact hkC) (by rw [g2]; exact va_assign hcls) rfl rfl hdg fun H1 e1 z oq => ?_
    exact kk H1 _ (hfin H1 e1 z oq) (hS.put z oq (adF_A h45))
theorem narB (x : Int32) : narrow .byte (.int x) = .int x.toInt8.toInt32 := rfl
theorem bytP_nar (x : Int32) : bytP x.toInt8.toInt32 := by
  show x.toInt8.toInt32.toInt8.toInt32 = x.toInt8.toInt32
  rw [Int8.toInt8_toInt32]
theorem m_bast (hx : p.tables.exec = Jvm.exec) (hb : c.code = cc) (hE : EO Γ s) (hM : RelM Γ M H) (hS : va_S (AF Γ) s.heap H locs) {a : Nat} (ha : pKd M a = 21) (hn : 159 ≤ a) {i v : Int32} (hi : inB i (pLn M a)) (hdg : decode cc pc = .ok (.bastore, 1))
    (kk : ∀ (H1 : Heap) (locs1 : List Loc), RelM Γ (setI M a (ixN i) v.toInt8.toInt32) H1 → va_S (AF Γ) s.heap H1 locs1 → W p l e R s m args below meth c H1 locs1 cells slots Q (F0 m (pc + 1) lk rest)) : W p l e R s m args below meth c H locs cells slots Q (F0 m pc lk (.int v :: .int i :: .ref (adF Γ a) :: rest)) := by
  have hnw : nwP Γ a := nw159 hn
  obtain ⟨hc, hby⟩ := hM.arb ha hnw
  refine W.bast hx hb hc ((hE.2.1.2 1 _ rfl).1 _ _) (fun q => by cases q) (by show ¬ (i < 0 ∨ (arrV _ _ _).slots.size ≤ _); rw [arrV_size]; exact inB_vp hi) rfl rfl hdg fun H1 e1 z oq => ?_
  refine kk H1 _ (hM.upd hnw rfl rfl rfl (fun b hb => funext fun j => ?_) (fun b hb => rfl) (Or.inr (Or.inr (Or.inr ⟨ha, ?_, fun j => ?_⟩))) z oq) (hS.put z oq (adF_A hnw))
  · show up2 (pI M) a (ixN i) _ b j = _
    simp [up2, hb]
  · rw [e1, arrV_store]
    congr 2
    funext j
    show updV _ _ _ j = Value.int (up2 (pI M) a (ixN i) v.toInt8.toInt32 a j)
    by_cases hj : j = ixN i
    · subst hj
      simp [updV, up2, ixN, narB]
    · have hj' : ¬ j = i.toNatClampNeg := hj
      simp [updV, up2, hj, hj']
  · show bytP (up2 (pI M) a (ixN i) v.toInt8.toInt32 a j)
    unfold up2
    split
    · exact bytP_nar v
    · exact hby j
theorem m_cpy (hx : p.tables.exec = Jvm.exec) (hb : c.code = cc) (hml : c.maxLocals = lk.size) {o i : Nat} (hown : s.vm.findClass (cNm o) = some m.cls) (hE : EO Γ s) (hM : RelM Γ M H) (hS : va_S (AF Γ) s.heap H locs) (ht : (o, i) ∈ acTab) {a b : Nat} (ha : pKd M a = 20) (hb2 : pKd M b = 20) {sp dp n : Int32} (h1 : 0 ≤ sp.toInt) (h2 : 0 ≤ dp.toInt) (h3 : 0 ≤ n.toInt) (h4 : sp.toInt + n.toInt ≤ pLn M a) (h5 : dp.toInt + n.toInt ≤ pLn M b)
    (hframes : 1 ≤ R.frames) (hlocals : (rest.map fun v => v.category).sum + (nativeFrameWords "java/lang/System" "arraycopy" 5 + 11) ≤ R.locals) (hdg : decode cc pc = .ok (.invokestatic i, 3))
    (kk : ∀ (H1 : Heap) (locs1 : List Loc), RelM Γ (cpyM M a b (ixN sp) (ixN dp) (ixN n)) H1 → va_S (AF Γ) s.heap H1 locs1 → W p l e R s m args below meth c H1 locs1 cells slots Q (F0 m (pc + 3) lk rest)) : W p l e R s m args below meth c H locs cells slots Q (F0 m pc lk (.int n :: .int dp :: .ref (adF Γ b) :: .int sp :: .ref (adF Γ a) :: rest)) := by
  obtain ⟨ha45, hca⟩ := hM.arr ha
  obtain ⟨hb45, hcb⟩ := hM.arr hb2
  have ng : ∀ z : Int32, 0 ≤ z.toInt → ¬ z < 0 := fun z hz q => by have := Int32.lt_iff_toInt_lt.mp q; simp at this; omega
  intro T hT X
  obtain ⟨-, k0, hk0, cm0, hkk0⟩ := (hE.2.1.2 0 _ rfl).1 (pLn M a) (fun j => .int (pI M a j))
  obtain ⟨-, k1, hk1, cm1, hkk1⟩ := (hE.2.1.2 0 _ rfl).1 (pLn M b) (fun j => .int (pI M b j))
  obtain ⟨vm', X', step⟩ := X.arraycopy hx hown (hE.1 _ (w_acT _ ht) rfl args) (hE.1 _ w_acN rfl args) (hE.1 _ w_acS rfl args) (hE.1 _ w_acI rfl args) (src := adF Γ a) (dst := adF Γ b) (cs := arrV (cxC Γ 0) (pLn M a) (fun j => .int (pI M a j))) (cd := arrV (cxC Γ 0) (pLn M b) (fun j => .int (pI M b j))) (srcPos := sp) (destPos := dp) (n := n) (by rw [hT]; exact hca) (by rw [hT]; exact hcb)
    (fun _ h => by cases h) (fun _ h => by cases h) (fun h => by cases h) (fun h => by cases h) hk0 hk1 hkk0 hkk1 (by simp [show refKind FieldType.int = false from rfl]) (ng _ h1) (ng _ h2) (ng _ h3)
    (by show ¬ _ > ((arrV _ _ _).slots.size : Int); rw [arrV_size]; omega)
    (by show ¬ _ > ((arrV _ _ _).slots.size : Int); rw [arrV_size]; omega)
    (fun vm₁ _ i hi => by
      have hi' : i < n.toInt.toNat := hi
      have e : (arrV (cxC Γ 0) (pLn M a) (fun j => Value.int (pI M a j))).slots.getD (sp.toNatClampNeg + i) .null = .int (pI M a (sp.toNatClampNeg + i)) := by
        rw [Array.getD_eq_getD_getElem?, arrV_read _ _ (by show sp.toInt.toNat + i < _; omega)]
        rfl
      refine ⟨?_, ?_⟩
      · rw [e]
        rfl
      · rw [e]
        exact trivial)
    (g := F0 m pc lk (.int n :: .int dp :: .ref (adF Γ b) :: .int sp :: .ref (adF Γ a) :: rest)) rfl (by rw [hml]) (rest := rest) rfl (by rw [hb]; exact hdg) hframes (by show 2 * 0 + _ + _ ≤ _; omega)
  have e1 : copied (arrV (cxC Γ 0) (pLn M a) (fun j => .int (pI M a j))) (arrV (cxC Γ 0) (pLn M b) (fun j => .int (pI M b j))) sp dp n = arrV (cxC Γ 0) (pLn M b) (fun j => .int (va_cpy (pI M a) (pI M b) (ixN sp) (ixN dp) (ixN n) j)) :=
    va_copied (fun z => .int z) (cxC Γ 0) (cxC Γ 0) (pI M a) (pI M b) (by show sp.toInt.toNat + n.toInt.toNat ≤ _; omega)
  rw [e1] at X' step
  generalize hnc : arrV (cxC Γ 0) (pLn M b) (fun j => Value.int (va_cpy (pI M a) (pI M b) (ixN sp) (ixN dp) (ixN n) j)) = nc at X' step
  have hl : adF Γ b < H.size := (Array.getElem?_eq_some_iff.mp hcb).1
  have hheap : ((T.setVm vm').setCell (adF Γ b) nc).heap = H.setIfInBounds (adF Γ b) nc := by rw [← hT]; rfl
  have oq : ∀ q : Nat, q ≠ adF Γ b → (H.setIfInBounds (adF Γ b) nc)[q]? = H[q]? := fun q hq => by simp [Array.getElem?_setIfInBounds, Ne.symm hq]
  obtain ⟨t, a1, b1⟩ := kk _ _ (hM.upd hb45 rfl rfl rfl (fun q hq => funext fun j => by
      show cpI (pI M) a b (ixN sp) (ixN dp) (ixN n) q j = _
      simp [cpI, hq]) (fun q hq => rfl) (Or.inr (Or.inl ⟨hb2, by
      show (H.setIfInBounds (adF Γ b) nc)[adF Γ b]? = some (arrV (cxC Γ 0) (pLn M b) (fun j => Value.int (cpI (pI M) a b (ixN sp) (ixN dp) (ixN n) b j)))
      rw [Array.getElem?_setIfInBounds, if_pos rfl, if_pos hl, ← hnc]
      congr 2
      funext j
      simp only [cpI, va_cpy, true_and]⟩)) (by simp) oq) ⟨by simp; exact hS.1, fun q g1 g2 => by
      rw [oq q (fun e => g2 (by rw [e]; exact adF_A hb45))]
      exact hS.2.1 q g1 g2, fun q hq => by
      rcases List.mem_append.mp hq with h | h
      · exact hS.2.2 q h
      · obtain ⟨z, -, hz⟩ := List.mem_map.mp h
        rw [← hz]
        exact adF_A hb45⟩ _ hheap X'
  exact ⟨t, step t a1, b1⟩
/-- what a row of bytes is on the machine, old or new -/
theorem RelM.bcell (hE : EO Γ s) (hH : EH Γ s s.heap) (hM : RelM Γ M H) (hS : va_S (AF Γ) s.heap H locs) {a : Nat} (ha : pKd M a = 21) : ∃ cs : Cell, H[adF Γ a]? = some cs ∧ s.isArrayOf cs .byte ∧ cs.vm ≠ .unknown ∧ cs.vm.isStatics = false ∧ pLn M a ≤ cs.slots.size ∧ (∀ j, j < pLn M a → cs.slots[j]? = some (.int (pI M a j))) ∧ ∀ j, j < pLn M a → bytP (pI M a j) := by
  have hG := hM.2.2.2.2.2.2
  rcases hM.byt ha with ⟨hn, -⟩ | ⟨j, hj, rfl⟩ | ⟨w, hw, rfl⟩
  · obtain ⟨hc, hby⟩ := hM.arb ha hn
    exact ⟨_, hc, (hE.2.1.2 1 _ rfl).1 _ _, (fun h => by cases h), rfl, by rw [arrV_size]; exact Nat.le_refl _, fun j hj => arrV_read _ _ hj, fun j _ => hby j⟩
  · obtain ⟨-, -, -, h1, -, -⟩ := hM.2.2.2.1
    have hp := plS_lt hj
    obtain ⟨-, -, -, -, z5, z6⟩ := h1 j hj
    rw [adF_old (by omega) (by omega) hG]
    obtain ⟨cs, t1, t2, t3, t4, t5, t6, t7⟩ := (hH.1 j hj).2.2.2
    refine ⟨cs, ?_, t2, t3, ?_, by rw [z5]; exact t4, fun k hk => by rw [z6]; exact t6 k (by rw [← z5]; exact hk), fun k hk => ?_⟩
    · rw [hS.2.1 _ (Array.getElem?_eq_some_iff.mp t1).1 t7]
      exact t1
    · exact isArr_ns t2
    · rw [z6]
      exact strB hj (by rw [← z5]; exact hk)
  · obtain ⟨-, -, -, -, h1, -⟩ := hM.2.2.2.1
    obtain ⟨-, z2, z3⟩ := h1 w hw
    rw [adF_old (by omega) (by omega) hG]
    obtain ⟨cs, t1, t2, t3, t4, t5, t6, t7⟩ := (hH.2.2.2.2.2.2 w hw).2
    refine ⟨cs, ?_, t2, t3, ?_, by rw [z2]; exact t4, fun k hk => by rw [z3 k (by rw [← z2]; exact hk)]; exact t6 k (by rw [← z2]; exact hk), fun k hk => ?_⟩
    · rw [hS.2.1 _ (Array.getElem?_eq_some_iff.mp t1).1 t7]
      exact t1
    · exact isArr_ns t2
    · rw [z3 k (by rw [← z2]; exact hk)]
      exact digB hw (by rw [← z2]; exact hk)
theorem fitB {x : Int32} (h : bytP x) : fits .byte (.int x) = true := by
  have h8 := bytP_rng h
  simp [fits, h8.1, h8.2]
theorem m_cpyB (hx : p.tables.exec = Jvm.exec) (hb : c.code = cc) (hml : c.maxLocals = lk.size) {o i : Nat} (hown : s.vm.findClass (cNm o) = some m.cls) (hE : EO Γ s) (hH : EH Γ s s.heap) (hM : RelM Γ M H) (hS : va_S (AF Γ) s.heap H locs) (ht : (o, i) ∈ acTab) {a b : Nat} (ha : pKd M a = 21) (hb2 : pKd M b = 21) (hb159 : 159 ≤ b) {sp dp n : Int32} (h1 : 0 ≤ sp.toInt) (h2 : 0 ≤ dp.toInt) (h3 : 0 ≤ n.toInt) (h4 : sp.toInt + n.toInt ≤ pLn M a) (h5 : dp.toInt + n.toInt ≤ pLn M b)
    (hframes : 1 ≤ R.frames) (hlocals : (rest.map fun v => v.category).sum + (nativeFrameWords "java/lang/System" "arraycopy" 5 + 11) ≤ R.locals) (hdg : decode cc pc = .ok (.invokestatic i, 3))
    (kk : ∀ (H1 : Heap) (locs1 : List Loc), RelM Γ (cpyM M a b (ixN sp) (ixN dp) (ixN n)) H1 → va_S (AF Γ) s.heap H1 locs1 → W p l e R s m args below meth c H1 locs1 cells slots Q (F0 m (pc + 3) lk rest)) : W p l e R s m args below meth c H locs cells slots Q (F0 m pc lk (.int n :: .int dp :: .ref (adF Γ b) :: .int sp :: .ref (adF Γ a) :: rest)) := by
  obtain ⟨cs, hca, har, hku, hns, hsz, hva, hfa⟩ := RelM.bcell hE hH hM hS ha
  have hnw : nwP Γ b := nw159 hb159
  obtain ⟨hcb, hby⟩ := hM.arb hb2 hnw
  have ng : ∀ z : Int32, 0 ≤ z.toInt → ¬ z < 0 := fun z hz q => by have := Int32.lt_iff_toInt_lt.mp q; simp at this; omega
  intro T hT X
  obtain ⟨-, k0, hk0, cm0, hkk0⟩ := har
  obtain ⟨-, k1, hk1, cm1, hkk1⟩ := (hE.2.1.2 1 _ rfl).1 (pLn M b) (fun j => .int (pI M b j))
  have hst : ∀ k, cs.vm ≠ .statics k := fun k h => by rw [h] at hns; cases hns
  obtain ⟨vm', X', step⟩ := X.arraycopy hx hown (hE.1 _ (w_acT _ ht) rfl args) (hE.1 _ w_acN rfl args) (hE.1 _ w_acS rfl args) (hE.1 _ w_acI rfl args) (src := adF Γ a) (dst := adF Γ b) (cs := cs) (cd := arrV (cxC Γ 1) (pLn M b) (fun j => .int (pI M b j))) (srcPos := sp) (destPos := dp) (n := n) (by rw [hT]; exact hca) (by rw [hT]; exact hcb)
    hst (fun _ h => by cases h) hku (fun h => by cases h) hk0 hk1 hkk0 hkk1 (by simp [show refKind FieldType.byte = false from rfl]) (ng _ h1) (ng _ h2) (ng _ h3)
    (by show ¬ _ > (cs.slots.size : Int); omega)
    (by show ¬ _ > ((arrV _ _ _).slots.size : Int); rw [arrV_size]; omega)
    (fun vm₁ _ i hi => by
      have hi' : i < n.toInt.toNat := hi
      have e : cs.slots.getD (sp.toNatClampNeg + i) .null = .int (pI M a (sp.toNatClampNeg + i)) := by
        rw [Array.getD_eq_getD_getElem?, hva _ (by show sp.toInt.toNat + i < _; omega)]
        rfl
      refine ⟨?_, ?_⟩
      · rw [e]
        exact fitB (hfa _ (by show sp.toInt.toNat + i < _; omega))
      · rw [e]
        exact trivial)
    (g := F0 m pc lk (.int n :: .int dp :: .ref (adF Γ b) :: .int sp :: .ref (adF Γ a) :: rest)) rfl (by rw [hml]) (rest := rest) rfl (by rw [hb]; exact hdg) hframes (by show 2 * 0 + _ + _ ≤ _; omega)
  have e1 : copied cs (arrV (cxC Γ 1) (pLn M b) (fun j => .int (pI M b j))) sp dp n = arrV (cxC Γ 1) (pLn M b) (fun j => .int (va_cpy (pI M a) (pI M b) (ixN sp) (ixN dp) (ixN n) j)) :=
    va_copiedX (fun z => .int z) cs (cxC Γ 1) (n0 := pLn M a) (pI M a) (pI M b) hva (by show sp.toInt.toNat + n.toInt.toNat ≤ _; omega)
  rw [e1] at X' step
  generalize hnc : arrV (cxC Γ 1) (pLn M b) (fun j => Value.int (va_cpy (pI M a) (pI M b) (ixN sp) (ixN dp) (ixN n) j)) = nc at X' step
  have hl : adF Γ b < H.size := (Array.getElem?_eq_some_iff.mp hcb).1
  have hheap : ((T.setVm vm').setCell (adF Γ b) nc).heap = H.setIfInBounds (adF Γ b) nc := by rw [← hT]; rfl
  have oq : ∀ q : Nat, q ≠ adF Γ b → (H.setIfInBounds (adF Γ b) nc)[q]? = H[q]? := fun q hq => by simp [Array.getElem?_setIfInBounds, Ne.symm hq]
  obtain ⟨t, a1, b1⟩ := kk _ _ (hM.upd hnw rfl rfl rfl (fun q hq => funext fun j => by
      show cpI (pI M) a b (ixN sp) (ixN dp) (ixN n) q j = _
      simp [cpI, hq]) (fun q hq => rfl) (Or.inr (Or.inr (Or.inr ⟨hb2, by
      show (H.setIfInBounds (adF Γ b) nc)[adF Γ b]? = some (arrV (cxC Γ 1) (pLn M b) (fun j => Value.int (cpI (pI M) a b (ixN sp) (ixN dp) (ixN n) b j)))
      rw [Array.getElem?_setIfInBounds, if_pos rfl, if_pos hl, ← hnc]
      congr 2
      funext j
      simp only [cpI, va_cpy, true_and], fun j => by
      show bytP (cpI (pI M) a b (ixN sp) (ixN dp) (ixN n) b j)
      unfold cpI
      split
      · rename_i hq
        exact hfa _ (by have h9 : ixN sp = sp.toInt.toNat := rfl; have h8 : ixN dp = dp.toInt.toNat := rfl; have h7 : ixN n = n.toInt.toNat := rfl; omega)
      · exact hby j⟩))) (by simp) oq) ⟨by simp; exact hS.1, fun q g1 g2 => by
      rw [oq q (fun e => g2 (by rw [e]; exact adF_A hnw))]
      exact hS.2.1 q g1 g2, fun q hq => by
      rcases List.mem_append.mp hq with h | h
      · exact hS.2.2 q h
      · obtain ⟨z, -, hz⟩ := List.mem_map.mp h
        rw [← hz]
        exact adF_A hnw⟩ _ hheap X'
  exact ⟨t, step t a1, b1⟩
theorem m_clone (hx : p.tables.exec = Jvm.exec) (hb : c.code = cc) (hml : c.maxLocals = lk.size) (hown : s.vm.findClass (cNm 17) = some m.cls) (hE : EO Γ s) (hM : RelM Γ M H) (hS : va_S (AF Γ) s.heap H locs) {a : Nat} (ha : pKd M a = 20)
    (hframes : 1 ≤ R.frames) (hlocals : (rest.map fun v => v.category).sum + 14 ≤ R.locals) (hcells : cells + 1 ≤ R.cells) (hslots : slots + pLn M a ≤ R.slots) (hdg : decode cc pc = .ok (.invokevirtual 316, 3))
    (kk : ∀ (H1 : Heap), RelM Γ (cpyM (mkN M kInt (pLn M a)) a (pSz M) 0 0 (pLn M a)) H1 → va_S (AF Γ) s.heap H1 locs → W p l e R s m args below meth c H1 locs (cells + 1) (slots + pLn M a) Q (F0 m (pc + 3) lk (.ref (adF Γ (pSz M)) :: rest))) : W p l e R s m args below meth c H locs cells slots Q (F0 m pc lk (.ref (adF Γ a) :: rest)) := by
  obtain ⟨ha45, hca⟩ := hM.arr ha
  have hlt : a < pSz M := (hM.new (by omega) (by omega) (by omega) (by omega)).2
  have ead : adF Γ (pSz M) = H.size := hM.end_ad
  obtain ⟨c00, hnm, hc00⟩ := hE.2.2.2.2.2.1
  subst hc00
  obtain ⟨c0, t0', f1, f2, f3⟩ := Cond.castable_spec (va_Nw.use (A := args) rfl hE.2.2.2.1)
  cases hnm.symm.trans f1
  intro T hT X
  obtain ⟨-, kA, hkA, comp, hkind⟩ := State.isArrayOf_alike X.warmed.alike ((hE.2.1.2 0 _ rfl).1 0 (fun _ => .null))
  obtain ⟨-, kS, hkS, compS, hkindS⟩ := (hE.2.1.2 0 _ rfl).1 0 (fun _ => .null)
  generalize hcell : arrV (cxC Γ 0) (pLn M a) (fun j => Value.int (pI M a j)) = cell at hca
  have hvm0 : cell.vm = .none := by rw [← hcell]; rfl
  have hcl0 : cell.cls = cxC Γ 0 := by rw [← hcell]; rfl
  have hsz : cell.slots.size = pLn M a := by rw [← hcell]; exact arrV_size _ _ _
  have hcellE : ({ cls := cell.cls, slots := cell.slots } : Cell) = cell := by rw [← hcell]; rfl
  obtain ⟨vm', X', st⟩ := X.cloneArray hx hown (hE.1 _ w_clM rfl args) (hE.1 _ w_clSm rfl args) (hE.1 _ w_clN rfl args) (hE.1 _ w_clI rfl args) (hE.1 _ w_clS rfl args) (a := adF Γ a) (cell := cell) (by rw [hT]; exact hca) (fun k h => by rw [hvm0] at h; cases h) (by rw [hvm0]; exact fun h => by cases h) (by rw [hcl0]; exact hnm) f2 (by rw [hcl0]; exact f3)
    (fun i v hv => by
      rw [hcl0]
      have hk' : T.vm.classes[cxC Γ 0]? = some kA := hkA
      have hfit : fits FieldType.int v = true := by
        rw [← hcell] at hv
        have hi : i < pLn M a := by have := (Array.getElem?_eq_some_iff.mp hv).1; rw [arrV_size] at this; exact this
        rw [arrV_read _ _ hi] at hv
        cases hv
        rfl
      simpa [State.fitsSlot, State.slotType?, hk', hkind] using hfit)
    (g := F0 m pc lk (.ref (adF Γ a) :: rest)) rfl (by rw [hml]) rfl (by rw [hb]; exact hdg) hframes (by show 2 * 0 + _ + 14 ≤ _; omega) hcells (by rw [hsz]; exact hslots) (hloader := by rw [hcl0]; exact Vm.clonesLoader_of_array hkS hkindS)
  rw [hcellE, hsz] at X'
  generalize hH1 : H.push cell = H1
  have z1 : H1.size = H.size + 1 := by rw [← hH1, Array.size_push]
  have e1 : H1[H.size]? = some cell := by rw [← hH1, Array.getElem?_push_size]
  have o1 : ∀ q : Nat, q < H.size → H1[q]? = H[q]? := fun q hq => by rw [← hH1, Array.getElem?_push, if_neg (Nat.ne_of_lt hq)]
  have hrel : RelM Γ (cpyM (mkN M kInt (pLn M a)) a (pSz M) 0 0 (pLn M a)) H1 := by
    refine hM.mks (n := 1) rfl (fun b hb => ?_) (fun i hi e => ?_) z1 o1
    · have hb : b ≠ pSz M := by omega
      refine ⟨?_, ?_, ?_, ?_⟩
      · show up1 _ _ _ b = _
        simp [up1, hb]
      · show up1 _ _ _ b = _
        simp [up1, hb]
      · show (fun k => cpI (upr (pI M) (pSz M) 0) a (pSz M) 0 0 (pLn M a) b k) = _
        funext k
        simp [cpI, upr, hb]
      · show (fun k => upr _ _ _ b k) = _
        funext k
        simp [upr, hb]
    · obtain rfl : i = 0 := by omega
      refine Or.inr (Or.inl ⟨if_pos rfl, ?_⟩)
      simp only [Nat.add_zero] at e ⊢
      rw [e, e1, ← hcell, show pLn (cpyM (mkN M kInt (pLn M a)) a (pSz M) 0 0 (pLn M a)) (pSz M) = pLn M a from if_pos rfl]
      have hext : arrV (cxC Γ 0) (pLn M a) (fun j => Value.int (pI M a j)) = arrV (cxC Γ 0) (pLn M a) (fun j => Value.int (pI (cpyM (mkN M kInt (pLn M a)) a (pSz M) 0 0 (pLn M a)) (pSz M) j)) := by
        unfold arrV
        congr 1
        apply congrArg
        funext j
        have hj := j.isLt
        show _ = Value.int (cpI (upr (pI M) (pSz M) 0) a (pSz M) 0 0 (pLn M a) (pSz M) j.val)
        have hne : a ≠ pSz M := by omega
        simp [cpI, upr, hne, hj]
      rw [hext]
  obtain ⟨t, b1, b2⟩ := kk H1 hrel ⟨Nat.le_trans hS.1 (by omega), fun y h1 h2 => (o1 y (Nat.lt_of_lt_of_le h1 hS.1)).trans (hS.2.1 y h1 h2), hS.2.2⟩
    ((T.setVm vm').pushCell cell) (by rw [← hH1, ← hT]; rfl) X'
  refine ⟨t, st t ?_, b2⟩
  rw [hcellE, hT]
  rw [ead] at b1
  exact b1
theorem m_cloneB (hx : p.tables.exec = Jvm.exec) (hb : c.code = cc) (hml : c.maxLocals = lk.size) (hown : s.vm.findClass (cNm 17) = some m.cls) (hE : EO Γ s) (hM : RelM Γ M H) (hS : va_S (AF Γ) s.heap H locs) {a : Nat} (ha : pKd M a = 21) (hn : 159 ≤ a)
    (hframes : 1 ≤ R.frames) (hlocals : (rest.map fun v => v.category).sum + 14 ≤ R.locals) (hcells : cells + 1 ≤ R.cells) (hslots : slots + pLn M a ≤ R.slots) (hdg : decode cc pc = .ok (.invokevirtual 310, 3))
    (kk : ∀ (H1 : Heap), RelM Γ (cpyM (mkN M kByt (pLn M a)) a (pSz M) 0 0 (pLn M a)) H1 → va_S (AF Γ) s.heap H1 locs → W p l e R s m args below meth c H1 locs (cells + 1) (slots + pLn M a) Q (F0 m (pc + 3) lk (.ref (adF Γ (pSz M)) :: rest))) : W p l e R s m args below meth c H locs cells slots Q (F0 m pc lk (.ref (adF Γ a) :: rest)) := by
  have hnw : nwP Γ a := nw159 hn
  obtain ⟨hca, hby⟩ := hM.arb ha hnw
  have hlt : a < pSz M := Nat.not_le.mp fun q => by
    have := hM.2.2.2.2.1 a q
    omega
  have ead : adF Γ (pSz M) = H.size := hM.end_ad
  obtain ⟨c00, hnm, hc00⟩ := hE.2.2.2.2.2.2.2.1
  subst hc00
  obtain ⟨c0, t0', f1, f2, f3⟩ := Cond.castable_spec (va_Nw.use (A := args) rfl hE.2.2.2.2.2.2.1)
  cases hnm.symm.trans f1
  intro T hT X
  obtain ⟨-, kA, hkA, comp, hkind⟩ := State.isArrayOf_alike X.warmed.alike ((hE.2.1.2 1 _ rfl).1 0 (fun _ => .null))
  obtain ⟨-, kS, hkS, compS, hkindS⟩ := (hE.2.1.2 1 _ rfl).1 0 (fun _ => .null)
  generalize hcell : arrV (cxC Γ 1) (pLn M a) (fun j => Value.int (pI M a j)) = cell at hca
  have hvm0 : cell.vm = .none := by rw [← hcell]; rfl
  have hcl0 : cell.cls = cxC Γ 1 := by rw [← hcell]; rfl
  have hsz : cell.slots.size = pLn M a := by rw [← hcell]; exact arrV_size _ _ _
  have hcellE : ({ cls := cell.cls, slots := cell.slots } : Cell) = cell := by rw [← hcell]; rfl
  obtain ⟨vm', X', st⟩ := X.cloneArray hx hown (hE.1 _ w_clMB rfl args) (hE.1 _ w_clSmB rfl args) (hE.1 _ w_clN rfl args) (hE.1 _ w_clI rfl args) (hE.1 _ w_clSB rfl args) (a := adF Γ a) (cell := cell) (by rw [hT]; exact hca) (fun k h => by rw [hvm0] at h; cases h) (by rw [hvm0]; exact fun h => by cases h) (by rw [hcl0]; exact hnm) f2 (by rw [hcl0]; exact f3)
    (fun i v hv => by
      rw [hcl0]
      have hk' : T.vm.classes[cxC Γ 1]? = some kA := hkA
      have hfit : fits FieldType.byte v = true := by
        rw [← hcell] at hv
        have hi : i < pLn M a := by have := (Array.getElem?_eq_some_iff.mp hv).1; rw [arrV_size] at this; exact this
        rw [arrV_read _ _ hi] at hv
        cases hv
        exact fitB (hby i)
      simpa [State.fitsSlot, State.slotType?, hk', hkind] using hfit)
    (g := F0 m pc lk (.ref (adF Γ a) :: rest)) rfl (by rw [hml]) rfl (by rw [hb]; exact hdg) hframes (by show 2 * 0 + _ + 14 ≤ _; omega) hcells (by rw [hsz]; exact hslots) (hloader := by rw [hcl0]; exact Vm.clonesLoader_of_array hkS hkindS)
  rw [hcellE, hsz] at X'
  generalize hH1 : H.push cell = H1
  have z1 : H1.size = H.size + 1 := by rw [← hH1, Array.size_push]
  have e1 : H1[H.size]? = some cell := by rw [← hH1, Array.getElem?_push_size]
  have o1 : ∀ q : Nat, q < H.size → H1[q]? = H[q]? := fun q hq => by rw [← hH1, Array.getElem?_push, if_neg (Nat.ne_of_lt hq)]
  have hrel : RelM Γ (cpyM (mkN M kByt (pLn M a)) a (pSz M) 0 0 (pLn M a)) H1 := by
    refine hM.mks (n := 1) rfl (fun b hb => ?_) (fun i hi e => ?_) z1 o1
    · have hb : b ≠ pSz M := by omega
      refine ⟨?_, ?_, ?_, ?_⟩
      · show up1 _ _ _ b = _
        simp [up1, hb]
      · show up1 _ _ _ b = _
        simp [up1, hb]
      · show (fun k => cpI (upr (pI M) (pSz M) 0) a (pSz M) 0 0 (pLn M a) b k) = _
        funext k
        simp [cpI, upr, hb]
      · show (fun k => upr _ _ _ b k) = _
        funext k
        simp [upr, hb]
    · obtain rfl : i = 0 := by omega
      refine Or.inr (Or.inr (Or.inr ⟨if_pos rfl, ?_, fun j => ?_⟩))
      rotate_left
      · rw [Nat.add_zero]
        show bytP (cpI (upr (pI M) (pSz M) 0) a (pSz M) 0 0 (pLn M a) (pSz M) j)
        have hne : a ≠ pSz M := by omega
        unfold cpI upr
        rw [if_neg hne]
        split
        · exact hby _
        · rw [if_pos rfl]
          exact bytP0
      simp only [Nat.add_zero] at e ⊢
      rw [e, e1, ← hcell, show pLn (cpyM (mkN M kByt (pLn M a)) a (pSz M) 0 0 (pLn M a)) (pSz M) = pLn M a from if_pos rfl]
      have hext : arrV (cxC Γ 1) (pLn M a) (fun j => Value.int (pI M a j)) = arrV (cxC Γ 1) (pLn M a) (fun j => Value.int (pI (cpyM (mkN M kByt (pLn M a)) a (pSz M) 0 0 (pLn M a)) (pSz M) j)) := by
        unfold arrV
        congr 1
        apply congrArg
        funext j
        have hj := j.isLt
        show _ = Value.int (cpI (upr (pI M) (pSz M) 0) a (pSz M) 0 0 (pLn M a) (pSz M) j.val)
        have hne : a ≠ pSz M := by omega
        simp [cpI, upr, hne, hj]
      rw [hext]
  obtain ⟨t, b1, b2⟩ := kk H1 hrel ⟨Nat.le_trans hS.1 (by omega), fun y h1 h2 => (o1 y (Nat.lt_of_lt_of_le h1 hS.1)).trans (hS.2.1 y h1 h2), hS.2.2⟩
    ((T.setVm vm').pushCell cell) (by rw [← hH1, ← hT]; rfl) X'
  refine ⟨t, st t ?_, b2⟩
  rw [hcellE, hT]
  rw [ead] at b1
  exact b1
theorem m_ccI (hx : p.tables.exec = Jvm.exec) (hb : c.code = cc) (hown : s.vm.findClass (cNm 17) = some m.cls) (hE : EO Γ s) (hM : RelM Γ M H) {a : Nat} (ha : pKd M a = 20) (hdg : decode cc pc = .ok (.checkcast 317, 3))
    (kk : W p l e R s m args below meth c H locs cells slots Q (F0 m (pc + 3) lk (.ref (adF Γ a) :: rest))) : W p l e R s m args below meth c H locs cells slots Q (F0 m pc lk (.ref (adF Γ a) :: rest)) := by
  obtain ⟨ha45, hca⟩ := hM.arr ha
  obtain ⟨c00, hnm, hc00⟩ := hE.2.2.2.2.2.1
  subst hc00
  intro T hT X
  obtain ⟨vm', X', st⟩ := X.checkcastYes hx hown (hE.1 _ w_ccL rfl args) (by rw [hT]; exact hca) rfl hnm (va_asg _ _) (g := F0 m pc lk (.ref (adF Γ a) :: rest)) rfl rfl (by rw [hb]; exact hdg)
  obtain ⟨t, a1, b1⟩ := kk (T.setVm vm') hT X'
  exact ⟨t, st t a1, b1⟩
theorem m_ccB (hx : p.tables.exec = Jvm.exec) (hb : c.code = cc) (hown : s.vm.findClass (cNm 17) = some m.cls) (hE : EO Γ s) (hM : RelM Γ M H) {a : Nat} (ha : pKd M a = 21) (hn : 159 ≤ a) (hdg : decode cc pc = .ok (.checkcast 311, 3))
    (kk : W p l e R s m args below meth c H locs cells slots Q (F0 m (pc + 3) lk (.ref (adF Γ a) :: rest))) : W p l e R s m args below meth c H locs cells slots Q (F0 m pc lk (.ref (adF Γ a) :: rest)) := by
  obtain ⟨hca, -⟩ := hM.arb ha (nw159 hn)
  obtain ⟨c00, hnm, hc00⟩ := hE.2.2.2.2.2.2.2.1
  subst hc00
  intro T hT X
  obtain ⟨vm', X', st⟩ := X.checkcastYes hx hown (hE.1 _ w_ccLB rfl args) (by rw [hT]; exact hca) rfl hnm (va_asg _ _) (g := F0 m pc lk (.ref (adF Γ a) :: rest)) rfl rfl (by rw [hb]; exact hdg)
  obtain ⟨t, a1, b1⟩ := kk (T.setVm vm') hT X'
  exact ⟨t, st t a1, b1⟩
theorem m_ldcS (hx : p.tables.exec = Jvm.exec) (hb : c.code = cc) {o i a : Nat} (hown : s.vm.findClass (cNm o) = some m.cls) (hE : EO Γ s) (ht : (o, i, a) ∈ sTab) (hG : cxG Γ ≤ 106) (hdg : decode cc pc = .ok (.ldc i, 2))
    (kk : W p l e R s m args below meth c H locs cells slots Q (F0 m (pc + 2) lk (.ref (adF Γ a) :: rest))) : W p l e R s m args below meth c H locs cells slots Q (F0 m pc lk rest) := by
  obtain ⟨tx, h⟩ := hE.2.2.1 _ ht
  have e1 : adF Γ a = cxA Γ a := by
    have : sTab.all (fun t => (Nat.blt t.2.2 45 || Nat.ble 106 t.2.2) && Nat.blt t.2.2 159) = true := by decide +kernel
    have := List.all_eq_true.mp this _ ht
    simp at this
    exact adF_old this.1 this.2 hG
  rw [e1] at kk
  exact va_ldcS hx hb hown h hdg kk
theorem m_ldcSw (hx : p.tables.exec = Jvm.exec) (hb : c.code = cc) {o i a : Nat} (hown : s.vm.findClass (cNm o) = some m.cls) (hE : EO Γ s) (ht : (o, i, a) ∈ sTab) (hG : cxG Γ ≤ 106) (hdg : decode cc pc = .ok (.ldc_w i, 3))
    (kk : W p l e R s m args below meth c H locs cells slots Q (F0 m (pc + 3) lk (.ref (adF Γ a) :: rest))) : W p l e R s m args below meth c H locs cells slots Q (F0 m pc lk rest) := by
  obtain ⟨tx, hconst, hev⟩ := hE.2.2.1 _ ht
  have e1 : adF Γ a = cxA Γ a := by
    have : sTab.all (fun t => (Nat.blt t.2.2 45 || Nat.ble 106 t.2.2) && Nat.blt t.2.2 159) = true := by decide +kernel
    have := List.all_eq_true.mp this _ ht
    simp at this
    exact adF_old this.1 this.2 hG
  rw [e1] at kk
  intro T hT X
  obtain ⟨t, a1, b1⟩ := kk T hT X
  refine ⟨t, ?_, b1⟩
  obtain ⟨k, cf, i', a', hk, hcf, hcp, -, hr, hev'⟩ := Cond.stringRef_spec hown hconst
  cases hev.symm.trans hev'
  obtain ⟨k', hk', he⟩ := X.warmed.alike.2.2 _ _ hk
  have hr' : k'.resolved[i]? = some (some (.string (cxA Γ a))) := by
    rcases X.warmed.entry hk hk' i with h | ⟨h, -⟩
    · rw [h]; exact hr
    · rw [hr] at h; cases h
  jvm_step X.here [hx, hb, hdg, ldc_w.wp_string (e := e) (s := T) (f := F0 m pc lk rest) X.here.top hk' (by rw [he]; exact hcf) hcp hr']
  exact a1
end MEMA
end
section
/-! String.checkIndex: it returns where the index lies within. -/
def yPC : MethodName := ⟨"jdk/internal/util/Preconditions", "checkIndex", "(IILjava/util/function/BiFunction;)I"⟩
def yCI : MethodName := ⟨"java/lang/String", "checkIndex", "(II)V"⟩
theorem w_ci0 : Cond.static yCI ∈ lw_tbl := List.mem_of_getElem? (i := 338) (by decide +kernel)
theorem w_ci1 : Cond.code yCI prog_21_method_155_code 2 none ∈ lw_tbl := List.mem_of_getElem? (i := 339) (by decide +kernel)
theorem w_ci2 : Cond.fieldLink "java/lang/String" 1053 "jdk/internal/util/Preconditions" "SIOOBE_FORMATTER" "Ljava/util/function/BiFunction;" ∈ lw_tbl := List.mem_of_getElem? (i := 340) (by decide +kernel)
theorem w_ci3 : Cond.methodLink "java/lang/String" 1059 yPC ∈ lw_tbl := List.mem_of_getElem? (i := 342) (by decide +kernel)
theorem w_ci4 : Cond.static yPC ∈ lw_tbl := List.mem_of_getElem? (i := 343) (by decide +kernel)
theorem w_ci5 : Cond.code yPC prog_28_method_11_code 3 (some .int) ∈ lw_tbl := List.mem_of_getElem? (i := 344) (by decide +kernel)
theorem w_ci6 : Cond.initialized "jdk/internal/util/Preconditions" ∈ lw_tbl := List.mem_of_getElem? (i := 35) (by decide +kernel)
section CHK
variable {p : Program} {l : Launch} {e : Env} {R : Room} {s : State} {m : MethodId} {args : Array Value} {below : List Frame} {meth : Method} {c : Code} {H : Heap} {locs : List Loc} {cells slots : Nat} {Q : State → Prop}
variable {Γ : CX} {pc : Nat} {lk : Array Slot} {rest : List Value} {cc : ByteArray} {M : PM}
/-- behind a call -/
theorem callW {mc ms : Nat} {st0 : List Value} {Qa : State → Outcome → State → Prop} {free : Addr → Prop} (hr : va_Run p l e R s m args below meth c H locs cells slots mc ms (F0 m pc lk st0) rest Qa free)
    (kk : ∀ (v : Option Value) (st₀ t : State) (L : List Loc), st₀.heap = H → (∀ q ∈ L, free q.base) → Qa st₀ (.returned v) t → s.vm.Alike t.vm → W p l e R s m args below meth c t.heap (locs ++ L) (cells + mc) (slots + ms) Q (F0 m (pc + 3) lk (v.toList ++ rest))) : W p l e R s m args below meth c H locs cells slots Q (F0 m pc lk st0) := by
  intro T hT X
  obtain ⟨v, st₀, t, T', L, h0, X', hL, e1, e2, hq, st⟩ := hr T hT X
  obtain ⟨t2, a1, b1⟩ := kk v st₀ t L h0 hL hq (by rw [← e2]; exact X'.warmed.alike) T' e1 X'
  exact ⟨t2, st t2 a1, b1⟩
set_option maxRecDepth 100000 in
set_option maxHeartbeats 4000000 in
theorem c_pc (l : Launch) : Met l yPC [Cond.code yPC prog_28_method_11_code 3 (some .int)] { frames := 0, cells := 0, slots := 0, locals := 0 } (fun a _ => ∃ (i n : Int32) (v : Value), a = #[.int i, .int n, v] ∧ v.category = 1 ∧ 0 ≤ i.toInt ∧ i.toInt < n.toInt)
    (fun _ st o t => (∃ i, o = .returned (some (.int i))) ∧ t.heap = st.heap) 0 0 (fun _ => False) := by
  refine va_MetF (cc := prog_28_method_11_code) (maxL := 3) (ret := some .int) (by decide +kernel) rfl ?_
  intro p e s m args below meth c s₁ B hml hv
  obtain ⟨i, n, v, rfl, hvc, h0, h1⟩ := hv
  have hx := B.exec
  have hb := B.bytes
  have hr := B.returns
  have hlocks := B.notSynchronized
  have hlen : (lg_sl ([.int i, .int n, v] : List Value)).length ≤ 3 := by simp [lg_sl, hvc, show (Value.int i).category = 1 from rfl, show (Value.int n).category = 1 from rfl]
  have hl := lv_entry ([.int i, .int n, v]) (n := 3) hlen
  rw [show (#[Value.int i, Value.int n, v] : Array Value) = ([.int i, .int n, v] : List Value).toArray from rfl, lg_entry_eq]
  generalize (lg_sl ([.int i, .int n, v] : List Value) ++ List.replicate (3 - (lg_sl ([.int i, .int n, v] : List Value)).length) Slot.unset).toArray = ls at hl ⊢
  refine lv_iload_n (i := 0) (x := i) hx hb (by decide +kernel : decode prog_28_method_11_code 0 = .ok (.iload_n 0, 1)) rfl (lv_at hl 0 rfl) ?_
  refine lv_if_lt (tgt := 9) hx hb (by decide +kernel : decode prog_28_method_11_code 1 = .ok (.ifCond .lt 8, 3)) (by decide) (fun hc => ?_) (fun _ => ?_)
  · have := Int32.lt_iff_toInt_lt.mp hc
    simp at this
    omega
  refine lv_iload_n (i := 0) (x := i) hx hb (by decide +kernel : decode prog_28_method_11_code 4 = .ok (.iload_n 0, 1)) rfl (lv_at hl 0 rfl) ?_
  refine lv_iload_n (i := 1) (x := n) hx hb (by decide +kernel : decode prog_28_method_11_code 5 = .ok (.iload_n 1, 1)) rfl (lv_at hl 1 rfl) ?_
  refine lv_icmp_lt (tgt := 16) hx hb (by decide +kernel : decode prog_28_method_11_code 6 = .ok (.if_icmp .lt 10, 3)) (by decide) (fun _ => ?_) (fun hc => ?_)
  · refine lv_iload_n (i := 0) (x := i) hx hb (by decide +kernel : decode prog_28_method_11_code 16 = .ok (.iload_n 0, 1)) rfl (lv_at hl 0 rfl) ?_
    exact W.iret (v := i) hx hb hr (fun t ht hW => ⟨⟨i, rfl⟩, ht⟩) (fun q hq => by cases hq) (by decide +kernel : decode prog_28_method_11_code 17 = .ok (.ireturn, 1))
  · exact absurd (Int32.lt_iff_toInt_lt.mpr h1) hc
set_option maxRecDepth 100000 in
set_option maxHeartbeats 4000000 in
theorem c_ci (l : Launch) (Γ : CX) : Met l yCI [Cond.code yCI prog_21_method_155_code 2 none] { frames := 1, cells := 0, slots := 0, locals := 30 } (fun a U => ∃ (i n : Int32), a = #[.int i, .int n] ∧ 0 ≤ i.toInt ∧ i.toInt < n.toInt ∧ EO Γ U ∧ EH Γ U U.heap)
    (fun _ st o t => o = .returned none ∧ t.heap = st.heap) 0 0 (fun _ => False) := by
  refine va_MetF (cc := prog_21_method_155_code) (maxL := 2) (ret := none) (by decide +kernel) rfl ?_
  intro p e s m args below meth c s₁ B hml hv
  obtain ⟨i, n, rfl, h0, h1, hE, hH⟩ := hv
  have hx := B.exec
  have hb := B.bytes
  have hr := B.returns
  have hlocks := B.notSynchronized
  have hown : s.vm.findClass "java/lang/String" = some m.cls := findClass_of_methodNamed B.named
  have hl := lv_entry ([.int i, .int n]) (n := 2) (Nat.le_of_ble_eq_true rfl)
  rw [show (#[Value.int i, Value.int n] : Array Value) = ([.int i, .int n] : List Value).toArray from rfl, lg_entry_eq]
  generalize (lg_sl ([.int i, .int n] : List Value) ++ List.replicate (2 - (lg_sl ([.int i, .int n] : List Value)).length) Slot.unset).toArray = ls at hl ⊢
  obtain ⟨-, -, -, -, -, ⟨v, hZ, hvc⟩, -⟩ := hH
  refine lv_iload_n (i := 0) (x := i) hx hb (by decide +kernel : decode prog_21_method_155_code 0 = .ok (.iload_n 0, 1)) rfl (lv_at hl 0 rfl) ?_
  refine lv_iload_n (i := 1) (x := n) hx hb (by decide +kernel : decode prog_21_method_155_code 1 = .ok (.iload_n 1, 1)) rfl (lv_at hl 1 rfl) ?_
  refine va_gets hx hb hZ (va_S.rf : va_S (AF Γ) s.heap s.heap []) hown (hE.1 _ w_ci2 rfl _) (fun _ h => h) (by decide +kernel : decode prog_21_method_155_code 2 = .ok (.getstatic 1053, 3)) ?_
  refine callW (rest := []) (va_runS (y := yPC) (bytes := prog_28_method_11_code) (maxL := 3) (ret := some .int) (ws := [Cond.code yPC prog_28_method_11_code 3 (some .int)]) (rm := { frames := 0, cells := 0, slots := 0, locals := 0 }) (Ts := []) (nL := 2) (own := "java/lang/String") (n := 3) (As := [.int i, .int n, v]) (rest := [])
    ⟨hx, hb, hml, hown, fun _ h => absurd h List.not_mem_nil⟩ (c_pc l) ⟨⟨rfl, rfl, Nat.le_refl _, Nat.le_of_ble_eq_true rfl, fun w hw a' U hW => by
        obtain rfl := List.mem_singleton.mp hw
        exact (hE.warm hW).1 _ w_ci5 rfl a', List.mem_singleton.mpr rfl, hE.1 _ w_ci5 rfl _, hE.1 _ w_ci6 rfl _, ⟨by decide, by decide⟩, (fun sig h => by
        have h2 : (parseMethodDescriptor yPC.desc).map (fun d => d.parameters.length) = some 3 := by decide +kernel
        rw [h] at h2
        exact (Option.some.inj h2).symm), hE.1 _ w_ci3 rfl _⟩, hE.1 _ w_ci4 rfl _⟩
    ⟨fun _ _ _ _ q => q, fun U _ _ => ⟨i, n, v, rfl, hvc, h0, h1⟩⟩ rfl rfl hl.1 rfl (Nat.le_of_ble_eq_true rfl) (by decide +kernel : decode prog_21_method_155_code 5 = .ok (.invokestatic 1059, 3)) ⟨Nat.le_refl _, Nat.le_refl _⟩) ?_
  intro w st₀ t L hs0 hL hq hal
  obtain ⟨⟨r, hw⟩, hh⟩ := hq
  cases hw
  have hL0 : L = [] := by
    cases L with
    | nil => rfl
    | cons a b => exact (hL a List.mem_cons_self).elim
  subst hL0
  rw [hh, hs0]
  refine lv_pop hx hb (by decide +kernel : decode prog_21_method_155_code 8 = .ok (.pop, 1)) rfl ?_
  exact W.vret hx hb hr (fun t ht hW => ⟨rfl, ht⟩) (fun q hq => by cases hq) (by decide +kernel : decode prog_21_method_155_code 9 = .ok (.return_, 1))
theorem m_chk (hx : p.tables.exec = Jvm.exec) (hb : c.code = cc) (hlk : lk.size = c.maxLocals) (hown : s.vm.findClass (cNm 14) = some m.cls) (hE : EO Γ s) (hH : EH Γ s s.heap) (hM : RelM Γ M H) (hS : va_S (AF Γ) s.heap H locs) {i n : Int32} (h0 : 0 ≤ i.toInt) (h1 : i.toInt < n.toInt)
    (hf : 2 ≤ R.frames) (hlo : 100 ≤ R.locals) (hr8 : (rest.map fun v => v.category).sum ≤ 8) (hc : cells ≤ R.cells) (hs : slots ≤ R.slots) (hdg : decode cc pc = .ok (.invokestatic 9, 3))
    (kk : ∀ (H1 : Heap) (locs1 : List Loc), RelM Γ M H1 → va_S (AF Γ) s.heap H1 locs1 → W p l e R s m args below meth c H1 locs1 cells slots Q (F0 m (pc + 3) lk rest)) : W p l e R s m args below meth c H locs cells slots Q (F0 m pc lk (.int n :: .int i :: rest)) := by
  refine callW (rest := rest) (va_runS (y := yCI) (bytes := prog_21_method_155_code) (maxL := 2) (ret := none) (ws := [Cond.code yCI prog_21_method_155_code 2 none]) (rm := { frames := 1, cells := 0, slots := 0, locals := 30 }) (Ts := []) (nL := lk.size) (own := cNm 14) (n := 2) (As := [.int i, .int n]) (rest := rest)
    ⟨hx, hb, hlk.symm, hown, fun _ h => absurd h List.not_mem_nil⟩ (c_ci l Γ) ⟨⟨rfl, rfl, by show 1 + 1 ≤ _; omega, by show 8 + (2 + 11) + 30 ≤ _; omega, fun w hw a' U hW => by
        obtain rfl := List.mem_singleton.mp hw
        exact (hE.warm hW).1 _ w_ci1 rfl a', List.mem_singleton.mpr rfl, hE.1 _ w_ci1 rfl _, hE.1 _ (w_init (c := 13) (by decide)) rfl _, ⟨by decide, by decide⟩, (fun sig h => by
        have h2 : (parseMethodDescriptor yCI.desc).map (fun d => d.parameters.length) = some 2 := by decide +kernel
        rw [h] at h2
        exact (Option.some.inj h2).symm), hE.1 _ w_ciL rfl _⟩, hE.1 _ w_ci0 rfl _⟩
    ⟨fun a U g mk q => by
      obtain ⟨i, n, q1, q2, q3, q4, q5⟩ := q
      exact ⟨i, n, q1, q2, q3, q4.warm (State.WarmedH.refl U), q5.kept (Vm.Alike.refl _) (Nat.le_refl _) (fun _ _ _ => rfl)⟩, fun U hU hW => ⟨i, n, rfl, h0, h1, hE.warm hW, by rw [hU]; exact hH.kept hW.alike hS.1 hS.2.1⟩⟩ rfl rfl rfl rfl (by show 2 * 0 + _ ≤ _; omega) hdg ⟨hc, hs⟩) ?_
  intro w st₀ t L hs0 hL hq hal
  obtain ⟨hw, hh⟩ := hq
  cases hw
  have hL0 : L = [] := by
    cases L with
    | nil => rfl
    | cons a b => exact (hL a List.mem_cons_self).elim
  subst hL0
  rw [hh, hs0, List.append_nil]
  exact kk H locs hM hS
end CHK
end
section
/-! One instruction of the pure machine is one of the machine. -/
def LR (Γ : CX) (y : Nat) (ls : List PV) (lk : Array Slot) : Prop := ls.length = mxL.getD y 0 ∧ lk.size = mxL.getD y 0 ∧ lv_wf lk ∧ (∀ (i : Nat) (v : PV), ls[i]? = some v → v ≠ vT → lk[i]? = some (.val (tvF Γ v))) ∧ ∀ (i : Nat) (z : Int64), ls[i]? = some (vL z) → lngT.contains (y, i) = true
def plF (Γ : CX) (ls : List PV) : List (Nat × Value) := (List.range ls.length).filterMap (fun (j : Nat) => match (ls[j]? : Option PV) with
  | some (.inl x) => some (j, tvF Γ (vI x))
  | some (.inr (.inl r)) => some (j, tvF Γ (vR r))
  | some (.inr (.inr (.inl z))) => some (j, tvF Γ (vL z))
  | _ => none)
theorem plF_in {Γ : CX} {ls : List PV} {j : Nat} {v : PV} (h : ls[j]? = some v) (hv : v ≠ vT) : (j, tvF Γ v) ∈ plF Γ ls := by
  refine List.mem_filterMap.mpr ⟨j, List.mem_range.mpr (List.getElem?_eq_some_iff.mp h).1, ?_⟩
  rw [h]
  rcases v with x | r | z | u
  · rfl
  · rfl
  · rfl
  · exact absurd rfl hv
theorem plF_of {Γ : CX} {ls : List PV} {q : Nat × Value} (h : q ∈ plF Γ ls) : ∃ v, ls[q.1]? = some v ∧ v ≠ vT ∧ q.2 = tvF Γ v := by
  obtain ⟨j, -, hj⟩ := List.mem_filterMap.mp h
  cases hl : ls[j]? with
  | none => rw [hl] at hj; cases hj
  | some v =>
    rw [hl] at hj
    rcases v with x | r | z | u
    · cases hj; exact ⟨_, hl, (fun q => by cases q), rfl⟩
    · cases hj; exact ⟨_, hl, (fun q => by cases q), rfl⟩
    · cases hj; exact ⟨_, hl, (fun q => by cases q), rfl⟩
    · cases hj
theorem cat2 {Γ : CX} {v : PV} (h : (tvF Γ v).category = 2) : ∃ z, v = vL z := by
  rcases v with x | r | z | u
  · cases h
  · cases r <;> cases h
  · exact ⟨z, rfl⟩
  · cases h
theorem cat1 {Γ : CX} {v : PV} (h : notL v = true) : (tvF Γ v).category = 1 := by
  rcases v with x | r | z | u
  · rfl
  · cases r <;> rfl
  · cases h
  · cases h
theorem LR.get {Γ : CX} {y : Nat} {ls : List PV} {lk : Array Slot} (h : LR Γ y ls lk) {i : Nat} {v : PV} (hi : ls[i]? = some v) (hv : v ≠ vT) : lk[i]? = some (.val (tvF Γ v)) := h.2.2.2.1 i v hi hv
theorem LR.has {Γ : CX} {y : Nat} {ls : List PV} {lk : Array Slot} (h : LR Γ y ls lk) : lv_has lk (mxL.getD y 0) (plF Γ ls) := by
  refine ⟨h.2.1, h.2.2.1, fun q hq => ?_⟩
  obtain ⟨v, h1, h2, h3⟩ := plF_of hq
  rw [h3]
  exact h.get h1 h2
theorem stOK_1 {y i : Nat} (h : stOK y i = true) : i < mxL.getD y 0 := by
  unfold stOK at h
  rw [Bool.and_eq_true] at h
  simpa using h.1
theorem stOK_2 {y i j : Nat} (h : stOK y i = true) (hj : j + 1 = i) : lngT.contains (y, j) = false := by
  unfold stOK at h
  rw [Bool.and_eq_true, Bool.or_eq_true] at h
  rcases h.2 with q | q
  · have : i = 0 := by simpa using q
    omega
  · have e : i - 1 = j := by omega
    rw [e] at q
    simpa using q
theorem LR.set1 {Γ : CX} {y : Nat} {ls : List PV} {lk lk' : Array Slot} (h : LR Γ y ls lk) {i : Nat} {v : PV} (hs : stOK y i = true) (hv : notL v = true)
    (hl : lv_has lk' (mxL.getD y 0) ((i, tvF Γ v) :: (plF Γ ls).filter (fun q => !(q.1 == i) && !(q.1 + 1 == i && q.2.category == 2)))) : LR Γ y (ls.set i v) lk' := by
  obtain ⟨g1, g2, g3, g4, g5⟩ := h
  refine ⟨by rw [List.length_set]; exact g1, hl.1, hl.2.1, fun j w hj hw => ?_, fun j z hj => ?_⟩
  · by_cases e : i = j
    · subst e
      have hlt : i < ls.length := by rw [g1]; exact stOK_1 hs
      rw [List.getElem?_set_self hlt] at hj
      cases hj
      exact hl.2.2 (i, tvF Γ v) List.mem_cons_self
    · rw [List.getElem?_set_ne e] at hj
      refine hl.2.2 (j, tvF Γ w) (List.mem_cons_of_mem _ (List.mem_filter.mpr ⟨plF_in hj hw, ?_⟩))
      have h1 : (j == i) = false := by simpa using (Ne.symm e)
      simp only [h1, Bool.not_false, Bool.true_and]
      cases hq : (j + 1 == i && (tvF Γ w).category == 2) with
      | false => rfl
      | true =>
        rw [Bool.and_eq_true] at hq
        obtain ⟨z, rfl⟩ := cat2 (Γ := Γ) (v := w) (by simpa using hq.2)
        have h5 := g5 j z hj
        rw [stOK_2 hs (by simpa using hq.1)] at h5
        cases h5
  · by_cases e : i = j
    · subst e
      have hlt : i < ls.length := by rw [g1]; exact stOK_1 hs
      rw [List.getElem?_set_self hlt] at hj
      cases hj
      cases hv
    · rw [List.getElem?_set_ne e] at hj
      exact g5 j z hj
theorem LR.set2 {Γ : CX} {y : Nat} {ls : List PV} {lk lk' : Array Slot} (h : LR Γ y ls lk) {i : Nat} {z : Int64} (hs : stOK y i = true) (hi : i + 1 < mxL.getD y 0) (hc : lngT.contains (y, i) = true)
    (hl : lv_has lk' (mxL.getD y 0) ((i, Value.long z) :: (plF Γ ls).filter (fun q => !(q.1 == i) && (!(q.1 == i + 1) && !(q.1 + 1 == i && q.2.category == 2))))) : LR Γ y ((ls.set i (vL z)).set (i + 1) vT) lk' := by
  obtain ⟨g1, g2, g3, g4, g5⟩ := h
  refine ⟨by rw [List.length_set, List.length_set]; exact g1, hl.1, hl.2.1, fun j w hj hw => ?_, fun j z' hj => ?_⟩
  · by_cases e1 : i + 1 = j
    · subst e1
      rw [List.getElem?_set_self (by rw [List.length_set, g1]; exact hi)] at hj
      cases hj
      exact absurd rfl hw
    · rw [List.getElem?_set_ne e1] at hj
      by_cases e : i = j
      · subst e
        rw [List.getElem?_set_self (by rw [g1]; omega)] at hj
        cases hj
        exact hl.2.2 (i, Value.long z) List.mem_cons_self
      · rw [List.getElem?_set_ne e] at hj
        refine hl.2.2 (j, tvF Γ w) (List.mem_cons_of_mem _ (List.mem_filter.mpr ⟨plF_in hj hw, ?_⟩))
        have h1 : (j == i) = false := by simpa using (Ne.symm e)
        have h2 : (j == i + 1) = false := by simpa using (Ne.symm e1)
        simp only [h1, h2, Bool.not_false, Bool.true_and]
        cases hq : (j + 1 == i && (tvF Γ w).category == 2) with
        | false => rfl
        | true =>
          rw [Bool.and_eq_true] at hq
          obtain ⟨z, rfl⟩ := cat2 (Γ := Γ) (v := w) (by simpa using hq.2)
          have h5 := g5 j z hj
          rw [stOK_2 hs (by simpa using hq.1)] at h5
          cases h5
  · by_cases e1 : i + 1 = j
    · subst e1
      rw [List.getElem?_set_self (by rw [List.length_set, g1]; exact hi)] at hj
      cases hj
    · rw [List.getElem?_set_ne e1] at hj
      by_cases e : i = j
      · subst e
        exact hc
      · rw [List.getElem?_set_ne e] at hj
        exact g5 j z' hj
theorem catsum {Γ : CX} : ∀ (st : List PV), ((st.map (tvF Γ)).map fun v => v.category).sum ≤ 2 * st.length
  | [] => Nat.le_refl _
  | v :: st => by
    have h1 := catsum (Γ := Γ) st
    have h2 : (tvF Γ v).category ≤ 2 := by
      rcases v with x | r | z | u
      · exact Nat.le_of_ble_eq_true rfl
      · cases r <;> exact Nat.le_of_ble_eq_true rfl
      · exact Nat.le_of_ble_eq_true rfl
      · exact Nat.le_of_ble_eq_true rfl
    simp only [List.map_cons, List.sum_cons, List.length_cons]
    omega
def retAt (y pc : Nat) (v : Option PV) : Prop := (decode (mCd y) pc = .ok (.ireturn, 1) ∧ ∃ x, v = some (vI x) ∧ rOk (rkL.getD y 0) x) ∨ (decode (mCd y) pc = .ok (.lreturn, 1) ∧ rkL.getD y 9 = 5 ∧ ∃ z, v = some (vL z)) ∨ (decode (mCd y) pc = .ok (.areturn, 1) ∧ rkL.getD y 9 = 6 ∧ ∃ r, v = some (vR r)) ∨ (decode (mCd y) pc = .ok (.return_, 1) ∧ rkL.getD y 9 = 0 ∧ v = none)
def callAt (y pc y' : Nat) (as : List PV) (M : PM) : Prop := as.all notL = true ∧ as.length = naL.getD y' 0 ∧ ∃ i,
  (((mcL.getD y 99, i, y') ∈ mTab ∧ decode (mCd y) pc = .ok (.invokestatic i, 3) ∧ stL.getD y' false = true) ∨
   ((mcL.getD y 99, i, y') ∈ mTab ∧ decode (mCd y) pc = .ok (.invokevirtual i, 3) ∧ stL.getD y' true = false ∧ isIni y' = false ∧ mcL.getD y' 99 < 14 ∧ ∃ a as', as = vR (some a) :: as' ∧ pKd M a = mcL.getD y' 99) ∨
   ((mcL.getD y 99, i, y') ∈ mTab ∧ decode (mCd y) pc = .ok (.invokespecial i, 3) ∧ stL.getD y' true = false ∧ isIni y' = true ∧ ∃ a as', as = vR (some a) :: as') ∨
   ((mcL.getD y 99, i, y') ∈ mTab ∧ decode (mCd y) pc = .ok (.invokevirtual i, 3) ∧ stL.getD y' true = false ∧ isIni y' = false ∧ mcL.getD y' 99 = 19 ∧ mcL.getD y 99 ≠ 12 ∧ ∃ a as', as = vR (some a) :: as' ∧ pKd M a = 12) ∨
   ((mcL.getD y 99, i, y') ∈ uTab ∧ decode (mCd y) pc = .ok (.invokevirtual i, 3) ∧ ∃ a as', as = vR (some a) :: as' ∧ pKd M a = 12) ∨
   ((mcL.getD y 99, i, y') ∈ mTab ∧ mcL.getD y 99 = 12 ∧ decode (mCd y) pc = .ok (.invokespecial i, 3) ∧ stL.getD y' true = false ∧ isIni y' = false ∧ mcL.getD y' 99 = 19 ∧ ∃ a as', as = vR (some a) :: as' ∧ pKd M a = 12))
theorem rc_mc0 : (List.range nM).all (fun y => bif Nat.beq (mcL.getD y 99) 19 then Nat.beq (rcL.getD y 99) 12 else Nat.beq (rcL.getD y 99) (mcL.getD y 99)) = true := by decide +kernel
theorem rc_19 {y : Nat} (hy : y < nM) (h : mcL.getD y 99 = 19) : rcL.getD y 99 = 12 := by
  have := List.all_eq_true.mp rc_mc0 y (List.mem_range.mpr hy)
  rw [h] at this
  exact Nat.eq_of_beq_eq_true this
theorem rc_mc {y : Nat} (hy : y < nM) (h : mcL.getD y 99 ≠ 19) : rcL.getD y 99 = mcL.getD y 99 := by
  have := List.all_eq_true.mp rc_mc0 y (List.mem_range.mpr hy)
  have h2 : Nat.beq (mcL.getD y 99) 19 = false := by
    cases hq : Nat.beq (mcL.getD y 99) 19 with
    | false => rfl
    | true => exact absurd (Nat.eq_of_beq_eq_true hq) h
  rw [h2] at this
  exact Nat.eq_of_beq_eq_true this
theorem mT_lt0 : mTab.all (fun e => Nat.blt e.2.2 nM) = true := by decide +kernel
theorem mT_lt {e : Nat × Nat × Nat} (h : e ∈ mTab) : e.2.2 < nM := by
  have := List.all_eq_true.mp mT_lt0 e h
  simpa using this
theorem uT_eq {e : Nat × Nat × Nat} (h : e ∈ uTab) : e = (13, 549, m_SB_length) := by
  have : uTab = [(13, 549, m_SB_length)] := rfl
  rw [this] at h
  simpa using h
section STEP
variable {p : Program} {l : Launch} {e : Env} {R : Room} {s : State} {m : MethodId} {args : Array Value} {below : List Frame} {meth : Method} {c : Code} {H : Heap} {locs : List Loc} {Q : State → Prop}
variable {Γ : CX} {lk : Array Slot} {M : PM}
def NXp (p : Program) (l : Launch) (e : Env) (R : Room) (s : State) (m : MethodId) (args : Array Value) (below : List Frame) (meth : Method) (c : Code) (Q : State → Prop) (Γ : CX) (y z0 l0 pc : Nat) (ls st : List PV) (M : PM) : Prop := (pSz M - z0 ≤ R.cells ∧ pSl M - l0 ≤ R.slots) ∧
  ∀ (lk : Array Slot) (H : Heap) (locs : List Loc), LR Γ y ls lk → RelM Γ M H → va_S (AF Γ) s.heap H locs → W p l e R s m args below meth c H locs (pSz M - z0) (pSl M - l0) Q (F0 m pc lk (st.map (tvF Γ)))
def RTp (p : Program) (l : Launch) (e : Env) (R : Room) (s : State) (m : MethodId) (args : Array Value) (below : List Frame) (meth : Method) (c : Code) (Q : State → Prop) (Γ : CX) (y z0 l0 : Nat) (v : Option PV) (M : PM) : Prop :=
  ∀ (pc : Nat) (lk : Array Slot) (H : Heap) (locs : List Loc), retAt y pc v → RelM Γ M H → va_S (AF Γ) s.heap H locs → W p l e R s m args below meth c H locs (pSz M - z0) (pSl M - l0) Q (F0 m pc lk (v.toList.map (tvF Γ)))
def CLp (p : Program) (l : Launch) (e : Env) (R : Room) (s : State) (m : MethodId) (args : Array Value) (below : List Frame) (meth : Method) (c : Code) (Q : State → Prop) (Γ : CX) (y z0 l0 : Nat) (y' : Nat) (as : List PV) (M : PM) (pc' : Nat) (ls' st' : List PV) : Prop :=
  ∀ (pc : Nat) (lk : Array Slot) (H : Heap) (locs : List Loc), pc' = pc + 3 → callAt y pc y' as M → st'.length ≤ 4 → LR Γ y ls' lk → RelM Γ M H → va_S (AF Γ) s.heap H locs → W p l e R s m args below meth c H locs (pSz M - z0) (pSl M - l0) Q (F0 m pc lk ((as.reverse ++ st').map (tvF Γ)))
theorem sat_ite {nx : Nat → List PV → List PV → PM → Prop} {rt : Option PV → PM → Prop} {cl : Nat → List PV → PM → Nat → List PV → List PV → Prop} {c : Prop} {i : Decidable c} {o : OUT} (h : satO nx rt cl (@ite _ c i o none)) : c ∧ satO nx rt cl o := by
  by_cases hc : c
  · rw [if_pos hc] at h
    exact ⟨hc, h⟩
  · rw [if_neg hc] at h
    exact h.elim
theorem sat_ons {nx : Nat → List PV → List PV → PM → Prop} {rt : Option PV → PM → Prop} {cl : Nat → List PV → PM → Nat → List PV → List PV → Prop} {r : Option Nat} {k : Nat → OUT} (h : satO nx rt cl (onR none r k)) : ∃ a, r = some a ∧ satO nx rt cl (k a) := by
  cases r with
  | none => exact h.elim
  | some a => exact ⟨a, rfl, h⟩
theorem sm31 (y : Int32) : (y &&& 31).toBitVec.smod 32 = y.toBitVec.smod 32 := by
  apply BitVec.eq_of_toInt_eq
  rw [BitVec.toInt_smod, BitVec.toInt_smod]
  have e1 : (y &&& 31).toBitVec.toNat = y.toBitVec.toNat % 32 := by
    show (y.toBitVec &&& 31#32).toNat = _
    rw [BitVec.toNat_and]
    exact Nat.and_two_pow_sub_one_eq_mod _ 5
  have e2 : (y &&& 31).toBitVec.toInt = ((y.toBitVec.toNat % 32 : Nat) : Int) := by
    rw [BitVec.toInt_eq_toNat_of_lt, e1]
    rw [e1]
    have := Nat.mod_lt y.toBitVec.toNat (show 0 < 32 by decide)
    show 2 * _ < 4294967296
    omega
  rw [e2]
  have e3 : (32 : BitVec 32).toInt = 32 := rfl
  rw [e3, BitVec.toInt_eq_toNat_cond]
  rw [Int.fmod_eq_emod_of_nonneg _ (by omega), Int.fmod_eq_emod_of_nonneg _ (by omega)]
  split <;> omega
theorem shl31 (x y : Int32) : x <<< (y &&& 31) = x <<< y := by
  show (⟨⟨x.toBitVec <<< ((y &&& 31).toBitVec.smod 32)⟩⟩ : Int32) = ⟨⟨x.toBitVec <<< (y.toBitVec.smod 32)⟩⟩
  rw [sm31]
theorem shr31 (x y : Int32) : x >>> (y &&& 31) = x >>> y := by
  show (⟨⟨BitVec.sshiftRight' x.toBitVec ((y &&& 31).toBitVec.smod 32)⟩⟩ : Int32) = ⟨⟨BitVec.sshiftRight' x.toBitVec (y.toBitVec.smod 32)⟩⟩
  rw [sm31]
theorem tsw_out {nx : Nat → List PV → List PV → PM → Prop} {rt : Option PV → PM → Prop} {cl : Nat → List PV → PM → Nat → List PV → List PV → Prop} {ls st : List PV} {M : PM} {x : Int32} {dflt : Nat} : ∀ (tl : List Nat) (lo : Int32), 0 ≤ lo.toInt → lo.toInt + (tl.length : Int) ≤ 1000 →
    satO nx rt cl (tsw (ρ := OUT) (fun c i a b => @ite _ c i a b) (fun t => some (.inl (t, ls, st, M))) x dflt lo tl) →
    ((x.toInt < lo.toInt ∨ lo.toInt + (tl.length : Int) ≤ x.toInt) ∧ nx dflt ls st M) ∨ (∃ k : Nat, ∃ t, x.toInt = lo.toInt + (k : Int) ∧ tl[k]? = some t ∧ nx t ls st M)
  | [], lo, _, _, h => Or.inl ⟨by simp; omega, h⟩
  | t :: tl, lo, h0, h1, h => by
    simp only [List.length_cons] at h1
    unfold tsw at h
    by_cases hc : x = lo
    · rw [if_pos hc] at h
      exact Or.inr ⟨0, t, by rw [hc]; simp, rfl, h⟩
    · rw [if_neg hc] at h
      have e1 : (lo + 1).toInt = lo.toInt + 1 := by
        have := Int32.toInt_add lo 1
        rw [this]
        show (lo.toInt + 1).bmod (2 ^ 32) = _
        rw [Int.bmod_eq_of_le (by omega) (by omega)]
      have hne : x.toInt ≠ lo.toInt := fun q => hc (Int32.toInt_inj.mp q)
      rcases tsw_out tl (lo + 1) (by omega) (by omega) h with ⟨q, z⟩ | ⟨k, t', q1, q2, q3⟩
      · refine Or.inl ⟨?_, z⟩
        simp only [List.length_cons]
        omega
      · exact Or.inr ⟨k + 1, t', by rw [q1, e1]; omega, q2, q3⟩
theorem tsw_ok {y pc n a : Nat} {z : Int32} {li : List Nat} {d0 lo hi : Int} {offs : Array Int} {ls st : List PV} {x : Int32} {z0 l0 : Nat} (hx : p.tables.exec = Jvm.exec) (hb : c.code = mCd y) (hdg : decode (mCd y) pc = .ok (.tableswitch d0 lo hi offs, n))
    (h1 : (pc : Int) + d0 = (a : Int)) (h2 : z.toInt = lo) (h3 : lo + (li.length : Int) = hi + 1) (h4 : offs.toList.map (fun q => (pc : Int) + q) = li.map (fun (t : Nat) => Int.ofNat t)) (h5 : 0 ≤ lo) (h6 : hi < 1000)
    (h : satO (NXp p l e R s m args below meth c Q Γ y z0 l0) (RTp p l e R s m args below meth c Q Γ y z0 l0) (CLp p l e R s m args below meth c Q Γ y z0 l0) (tsw (ρ := OUT) (fun c i a b => @ite _ c i a b) (fun t => some (.inl (t, ls, st, M))) x a z li)) (hLR : LR Γ y ls lk) (hM : RelM Γ M H) (hS : va_S (AF Γ) s.heap H locs) :
    W p l e R s m args below meth c H locs (pSz M - z0) (pSl M - l0) Q (F0 m pc lk (Value.int x :: st.map (tvF Γ))) := by
  rcases tsw_out li z (by omega) (by omega) h with ⟨q, hk⟩ | ⟨k, t, q1, q2, hk⟩
  · exact lv_tableOut hx hb hdg (by omega) h1 (hk.2 lk H locs hLR hM hS)
  · have hlt : k < li.length := (List.getElem?_eq_some_iff.mp q2).1
    have e1 : (offs.toList.map (fun q => (pc : Int) + q))[k]? = some (Int.ofNat t) := by rw [h4, List.getElem?_map, q2]; rfl
    rw [List.getElem?_map] at e1
    cases ho : offs.toList[k]? with
    | none => rw [ho] at e1; cases e1
    | some off =>
      rw [ho] at e1
      have e2 : (pc : Int) + off = Int.ofNat t := by simpa using e1
      refine lv_tableIn (off := off) (tgt := t) hx hb hdg (by omega) (by omega) ?_ e2 (hk.2 lk H locs hLR hM hS)
      have : (x.toInt - lo).toNat = k := by omega
      rw [this, ← Array.getElem?_toList]
      exact ho
set_option maxHeartbeats 8000000 in
theorem step_ok {y d pc : Nat} {e0 : PE} {ls st : List PV} (hp : prog y pc = some e0) (hx : p.tables.exec = Jvm.exec) (hb : c.code = mCd y) (hml : c.maxLocals = mxL.getD y 0) (hown : s.vm.findClass (cNm (mcL.getD y 99)) = some m.cls) (hE : EO Γ s) (hH : EH Γ s s.heap) (hini : isIni y = true → meth.name = "<init>") (hd1 : d ≤ R.frames) (hd2 : 60 * d ≤ R.locals) {z0 l0 : Nat}
    (h : satO (NXp p l e R s m args below meth c Q Γ y z0 l0) (RTp p l e R s m args below meth c Q Γ y z0 l0) (CLp p l e R s m args below meth c Q Γ y z0 l0) (opF XF (fun y => rcL.getD y 99) d (rkL.getD y 0) e0 pc ls st M)) (hz : z0 ≤ pSz M) (hl0 : l0 ≤ pSl M) (hLR : LR Γ y ls lk) (hM : RelM Γ M H) (hS : va_S (AF Γ) s.heap H locs) :
    W p l e R s m args below meth c H locs (pSz M - z0) (pSl M - l0) Q (F0 m pc lk (st.map (tvF Γ))) := by
  obtain ⟨n, hdg, hn, hres⟩ := ok_dec hp
  obtain ⟨i, a, b, z, li⟩ := e0
  unfold opF op at h
  unfold resOK at hres
  cases i with
  | iconst n0 =>
    dsimp only at h hres hn hdg
    have hn : n = 1 := hn.resolve_right (fun ⟨_, _, _, _, q⟩ => by cases q)
    subst hn
    exact lv_iconst hx hb hdg (of_decide_eq_true hres) (h.2 lk H locs hLR hM hS)
  | bipush n0 =>
    dsimp only at h hres hn hdg
    have hn : n = 2 := hn.resolve_right (fun ⟨_, _, _, _, q⟩ => by cases q)
    subst hn
    exact lv_bipush hx hb hdg (of_decide_eq_true hres) (h.2 lk H locs hLR hM hS)
  | sipush n0 =>
    dsimp only at h hres hn hdg
    have hn : n = 3 := hn.resolve_right (fun ⟨_, _, _, _, q⟩ => by cases q)
    subst hn
    exact lv_sipush hx hb hdg (of_decide_eq_true hres) (h.2 lk H locs hLR hM hS)
  | ldc n0 =>
    dsimp only at h hres hn hdg
    have hn : n = 2 := hn.resolve_right (fun ⟨_, _, _, _, q⟩ => by cases q)
    subst hn
    cases a with
    | zero => exact lv_ldc hx hb hown (hE.1 _ (w_kT _ (List.contains_iff_mem.mp hres)) rfl args) hdg (h.2 lk H locs hLR hM hS)
    | succ a => exact m_ldcS hx hb hown hE (List.contains_iff_mem.mp hres) hM.2.2.2.2.2.2 hdg (h.2 lk H locs hLR hM hS)
  | ldc_w n0 =>
    dsimp only at h hres hn hdg
    have hn : n = 3 := hn.resolve_right (fun ⟨_, _, _, _, q⟩ => by cases q)
    subst hn
    cases a with
    | zero => exact lv_ldcw hx hb hown (hE.1 _ (w_kT _ (List.contains_iff_mem.mp hres)) rfl args) hdg (h.2 lk H locs hLR hM hS)
    | succ a => exact m_ldcSw hx hb hown hE (List.contains_iff_mem.mp hres) hM.2.2.2.2.2.2 hdg (h.2 lk H locs hLR hM hS)
  | lconst n0 =>
    dsimp only at h hres hn hdg
    have hn : n = 1 := hn.resolve_right (fun ⟨_, _, _, _, q⟩ => by cases q)
    subst hn
    exact lv_lconst hx hb hdg (of_decide_eq_true hres) (h.2 lk H locs hLR hM hS)
  | ldc2_w n0 =>
    dsimp only at h hres hn hdg
    have hn : n = 3 := hn.resolve_right (fun ⟨_, _, _, _, q⟩ => by cases q)
    subst hn
    exact absurd (List.contains_iff_mem.mp hres) (by unfold klTab; exact List.not_mem_nil)
  | aconst_null =>
    dsimp only at h hres hn hdg
    have hn : n = 1 := hn.resolve_right (fun ⟨_, _, _, _, q⟩ => by cases q)
    subst hn
    exact lv_null hx hb hdg (h.2 lk H locs hLR hM hS)
  | iload_n k0 =>
    dsimp only at h hres hn hdg
    have hn : n = 1 := hn.resolve_right (fun ⟨_, _, _, _, q⟩ => by cases q)
    subst hn
    split at h
    · rename_i x hl
      exact lv_iload_n hx hb hdg (Nat.eq_of_beq_eq_true hres) (hLR.get hl (fun q => by cases q)) (h.2 lk H locs hLR hM hS)
    · exact h.elim
  | iload k0 =>
    dsimp only at h hres hn hdg
    have hn : n = 2 := hn.resolve_right (fun ⟨_, _, _, _, q⟩ => by cases q)
    subst hn
    split at h
    · rename_i x hl
      obtain rfl := Nat.eq_of_beq_eq_true hres
      exact lv_iload hx hb hdg (hLR.get hl (fun q => by cases q)) (h.2 lk H locs hLR hM hS)
    · exact h.elim
  | lload_n k0 =>
    dsimp only at h hres hn hdg
    have hn : n = 1 := hn.resolve_right (fun ⟨_, _, _, _, q⟩ => by cases q)
    subst hn
    split at h
    · rename_i x hl
      exact lv_lload_n hx hb hdg (Nat.eq_of_beq_eq_true hres) (hLR.get hl (fun q => by cases q)) (h.2 lk H locs hLR hM hS)
    · exact h.elim
  | lload k0 =>
    dsimp only at h hres hn hdg
    have hn : n = 2 := hn.resolve_right (fun ⟨_, _, _, _, q⟩ => by cases q)
    subst hn
    split at h
    · rename_i x hl
      obtain rfl := Nat.eq_of_beq_eq_true hres
      exact lv_lload hx hb hdg (hLR.get hl (fun q => by cases q)) (h.2 lk H locs hLR hM hS)
    · exact h.elim
  | aload_n k0 =>
    dsimp only at h hres hn hdg
    have hn : n = 1 := hn.resolve_right (fun ⟨_, _, _, _, q⟩ => by cases q)
    subst hn
    split at h
    · rename_i x hl
      cases x with
      | none => exact lv_aload_nN hx hb hdg (Nat.eq_of_beq_eq_true hres) (hLR.get hl (fun q => by cases q)) (h.2 lk H locs hLR hM hS)
      | some x => exact lv_aload_n hx hb hdg (Nat.eq_of_beq_eq_true hres) (hLR.get hl (fun q => by cases q)) (h.2 lk H locs hLR hM hS)
    · exact h.elim
  | aload k0 =>
    dsimp only at h hres hn hdg
    have hn : n = 2 := hn.resolve_right (fun ⟨_, _, _, _, q⟩ => by cases q)
    subst hn
    split at h
    · rename_i x hl
      obtain rfl := Nat.eq_of_beq_eq_true hres
      cases x with
      | none => exact lv_aloadN hx hb hdg (hLR.get hl (fun q => by cases q)) (h.2 lk H locs hLR hM hS)
      | some x => exact lv_aload hx hb hdg (hLR.get hl (fun q => by cases q)) (h.2 lk H locs hLR hM hS)
    · exact h.elim
  | istore_n k0 =>
    dsimp only at h hres hn hdg
    have hn : n = 1 := hn.resolve_right (fun ⟨_, _, _, _, q⟩ => by cases q)
    subst hn
    rw [Bool.and_eq_true] at hres
    split at h
    · rename_i x st
      exact lv_istore_n hx hb hdg (Nat.eq_of_beq_eq_true hres.1) hLR.has (stOK_1 hres.2) rfl (fun lk2 hl2 => h.2 lk2 H locs (hLR.set1 hres.2 rfl hl2) hM hS)
    · exact h.elim
  | istore k0 =>
    dsimp only at h hres hn hdg
    have hn : n = 2 := hn.resolve_right (fun ⟨_, _, _, _, q⟩ => by cases q)
    subst hn
    rw [Bool.and_eq_true] at hres
    split at h
    · rename_i x st
      obtain rfl := Nat.eq_of_beq_eq_true hres.1
      exact lv_istore hx hb hdg hLR.has (stOK_1 hres.2) rfl (fun lk2 hl2 => h.2 lk2 H locs (hLR.set1 hres.2 rfl hl2) hM hS)
    · exact h.elim
  | astore_n k0 =>
    dsimp only at h hres hn hdg
    have hn : n = 1 := hn.resolve_right (fun ⟨_, _, _, _, q⟩ => by cases q)
    subst hn
    rw [Bool.and_eq_true] at hres
    split at h
    · rename_i x st
      cases x with
      | none => exact lv_astore_nN hx hb hdg (Nat.eq_of_beq_eq_true hres.1) hLR.has (stOK_1 hres.2) rfl (fun lk2 hl2 => h.2 lk2 H locs (hLR.set1 hres.2 rfl hl2) hM hS)
      | some x => exact lv_astore_n hx hb hdg (Nat.eq_of_beq_eq_true hres.1) hLR.has (stOK_1 hres.2) rfl (fun lk2 hl2 => h.2 lk2 H locs (hLR.set1 hres.2 rfl hl2) hM hS)
    · exact h.elim
  | astore k0 =>
    dsimp only at h hres hn hdg
    have hn : n = 2 := hn.resolve_right (fun ⟨_, _, _, _, q⟩ => by cases q)
    subst hn
    rw [Bool.and_eq_true] at hres
    split at h
    · rename_i x st
      obtain rfl := Nat.eq_of_beq_eq_true hres.1
      cases x with
      | none => exact lv_astoreN hx hb hdg hLR.has (stOK_1 hres.2) rfl (fun lk2 hl2 => h.2 lk2 H locs (hLR.set1 hres.2 rfl hl2) hM hS)
      | some x => exact lv_astore hx hb hdg hLR.has (stOK_1 hres.2) rfl (fun lk2 hl2 => h.2 lk2 H locs (hLR.set1 hres.2 rfl hl2) hM hS)
    · exact h.elim
  | lstore_n k0 =>
    dsimp only at h hres hn hdg
    have hn : n = 1 := hn.resolve_right (fun ⟨_, _, _, _, q⟩ => by cases q)
    subst hn
    simp only [Bool.and_eq_true] at hres
    split at h
    · rename_i x st
      exact lv_lstore_n hx hb hdg (Nat.eq_of_beq_eq_true hres.1.1.1) hLR.has (by simpa using hres.1.2) rfl (fun lk2 hl2 => h.2 lk2 H locs (hLR.set2 hres.1.1.2 (by simpa using hres.1.2) hres.2 hl2) hM hS)
    · exact h.elim
  | lstore k0 =>
    dsimp only at h hres hn hdg
    have hn : n = 2 := hn.resolve_right (fun ⟨_, _, _, _, q⟩ => by cases q)
    subst hn
    simp only [Bool.and_eq_true] at hres
    split at h
    · rename_i x st
      obtain rfl := Nat.eq_of_beq_eq_true hres.1.1.1
      exact lv_lstore hx hb hdg hLR.has (by simpa using hres.1.2) rfl (fun lk2 hl2 => h.2 lk2 H locs (hLR.set2 hres.1.1.2 (by simpa using hres.1.2) hres.2 hl2) hM hS)
    · exact h.elim
  | iinc k0 n0 =>
    dsimp only at h hres hn hdg
    have hn : n = 3 := hn.resolve_right (fun ⟨_, _, _, _, q⟩ => by cases q)
    subst hn
    simp only [Bool.and_eq_true, decide_eq_true_eq] at hres
    split at h
    · rename_i x hl
      obtain rfl := Nat.eq_of_beq_eq_true hres.1.1
      obtain ⟨kk, hkk⟩ := List.getElem?_of_mem (plF_in (Γ := Γ) hl (fun q => by cases q))
      exact lv_iinc hx hb hdg hLR.has hkk (by rw [hres.2]) (stOK_1 hres.1.2) rfl (fun lk2 hl2 => h.2 lk2 H locs (hLR.set1 hres.1.2 rfl hl2) hM hS)
    · exact h.elim
  | iadd =>
    dsimp only at h hres hn hdg
    have hn : n = 1 := hn.resolve_right (fun ⟨_, _, _, _, q⟩ => by cases q)
    subst hn
    split at h
    · exact lv_iadd hx hb hdg (h.2 lk H locs hLR hM hS)
    · exact h.elim
  | isub =>
    dsimp only at h hres hn hdg
    have hn : n = 1 := hn.resolve_right (fun ⟨_, _, _, _, q⟩ => by cases q)
    subst hn
    split at h
    · exact lv_isub hx hb hdg (h.2 lk H locs hLR hM hS)
    · exact h.elim
  | imul =>
    dsimp only at h hres hn hdg
    have hn : n = 1 := hn.resolve_right (fun ⟨_, _, _, _, q⟩ => by cases q)
    subst hn
    split at h
    · exact lv_imul hx hb hdg (h.2 lk H locs hLR hM hS)
    · exact h.elim
  | iand =>
    dsimp only at h hres hn hdg
    have hn : n = 1 := hn.resolve_right (fun ⟨_, _, _, _, q⟩ => by cases q)
    subst hn
    split at h
    · exact lv_iand hx hb hdg (h.2 lk H locs hLR hM hS)
    · exact h.elim
  | ior =>
    dsimp only at h hres hn hdg
    have hn : n = 1 := hn.resolve_right (fun ⟨_, _, _, _, q⟩ => by cases q)
    subst hn
    split at h
    · exact lv_ior hx hb hdg (h.2 lk H locs hLR hM hS)
    · exact h.elim
  | ishl =>
    dsimp only at h hres hn hdg
    have hn : n = 1 := hn.resolve_right (fun ⟨_, _, _, _, q⟩ => by cases q)
    subst hn
    split at h
    · exact lv_ishl hx hb hdg (by rw [shl31]; exact h.2 lk H locs hLR hM hS)
    · exact h.elim
  | ishr =>
    dsimp only at h hres hn hdg
    have hn : n = 1 := hn.resolve_right (fun ⟨_, _, _, _, q⟩ => by cases q)
    subst hn
    split at h
    · exact lv_ishr hx hb hdg (by rw [shr31]; exact h.2 lk H locs hLR hM hS)
    · exact h.elim
  | ladd =>
    dsimp only at h hres hn hdg
    have hn : n = 1 := hn.resolve_right (fun ⟨_, _, _, _, q⟩ => by cases q)
    subst hn
    split at h
    · exact lv_ladd hx hb hdg (h.2 lk H locs hLR hM hS)
    · exact h.elim
  | lsub =>
    dsimp only at h hres hn hdg
    have hn : n = 1 := hn.resolve_right (fun ⟨_, _, _, _, q⟩ => by cases q)
    subst hn
    split at h
    · exact lv_lsub hx hb hdg (h.2 lk H locs hLR hM hS)
    · exact h.elim
  | lmul =>
    dsimp only at h hres hn hdg
    have hn : n = 1 := hn.resolve_right (fun ⟨_, _, _, _, q⟩ => by cases q)
    subst hn
    split at h
    · exact lv_lmul hx hb hdg (h.2 lk H locs hLR hM hS)
    · exact h.elim
  | land =>
    dsimp only at h hres hn hdg
    have hn : n = 1 := hn.resolve_right (fun ⟨_, _, _, _, q⟩ => by cases q)
    subst hn
    split at h
    · exact lv_land hx hb hdg (h.2 lk H locs hLR hM hS)
    · exact h.elim
  | iushr =>
    dsimp only at h hres hn hdg
    have hn : n = 1 := hn.resolve_right (fun ⟨_, _, _, _, q⟩ => by cases q)
    subst hn
    split at h
    · exact lv_iushr hx hb hdg rfl (h.2 lk H locs hLR hM hS)
    · exact h.elim
  | ineg =>
    dsimp only at h hres hn hdg
    have hn : n = 1 := hn.resolve_right (fun ⟨_, _, _, _, q⟩ => by cases q)
    subst hn
    split at h
    · exact lv_ineg hx hb hdg (h.2 lk H locs hLR hM hS)
    · exact h.elim
  | lneg =>
    dsimp only at h hres hn hdg
    have hn : n = 1 := hn.resolve_right (fun ⟨_, _, _, _, q⟩ => by cases q)
    subst hn
    split at h
    · exact lv_lneg hx hb hdg (h.2 lk H locs hLR hM hS)
    · exact h.elim
  | i2l =>
    dsimp only at h hres hn hdg
    have hn : n = 1 := hn.resolve_right (fun ⟨_, _, _, _, q⟩ => by cases q)
    subst hn
    split at h
    · exact lv_i2l hx hb hdg rfl (h.2 lk H locs hLR hM hS)
    · exact h.elim
  | l2i =>
    dsimp only at h hres hn hdg
    have hn : n = 1 := hn.resolve_right (fun ⟨_, _, _, _, q⟩ => by cases q)
    subst hn
    split at h
    · exact lv_l2i hx hb hdg rfl (h.2 lk H locs hLR hM hS)
    · exact h.elim
  | i2c =>
    dsimp only at h hres hn hdg
    have hn : n = 1 := hn.resolve_right (fun ⟨_, _, _, _, q⟩ => by cases q)
    subst hn
    split at h
    · exact lv_i2c hx hb hdg rfl (h.2 lk H locs hLR hM hS)
    · exact h.elim
  | i2b =>
    dsimp only at h hres hn hdg
    have hn : n = 1 := hn.resolve_right (fun ⟨_, _, _, _, q⟩ => by cases q)
    subst hn
    split at h
    · exact lv_i2b hx hb hdg rfl (h.2 lk H locs hLR hM hS)
    · exact h.elim
  | idiv =>
    dsimp only at h hres hn hdg
    have hn : n = 1 := hn.resolve_right (fun ⟨_, _, _, _, q⟩ => by cases q)
    subst hn
    split at h
    · obtain ⟨hne, h⟩ := sat_ite h
      exact lv_idiv hx hb hdg hne (h.2 lk H locs hLR hM hS)
    · exact h.elim
  | irem =>
    dsimp only at h hres hn hdg
    have hn : n = 1 := hn.resolve_right (fun ⟨_, _, _, _, q⟩ => by cases q)
    subst hn
    split at h
    · obtain ⟨hne, h⟩ := sat_ite h
      exact lv_irem hx hb hdg hne (h.2 lk H locs hLR hM hS)
    · exact h.elim
  | ldiv =>
    dsimp only at h hres hn hdg
    have hn : n = 1 := hn.resolve_right (fun ⟨_, _, _, _, q⟩ => by cases q)
    subst hn
    split at h
    · obtain ⟨hne, h⟩ := sat_ite h
      exact lv_ldiv hx hb hdg hne (h.2 lk H locs hLR hM hS)
    · exact h.elim
  | lrem =>
    dsimp only at h hres hn hdg
    have hn : n = 1 := hn.resolve_right (fun ⟨_, _, _, _, q⟩ => by cases q)
    subst hn
    split at h
    · obtain ⟨hne, h⟩ := sat_ite h
      exact lv_lrem hx hb hdg hne (h.2 lk H locs hLR hM hS)
    · exact h.elim
  | lcmp =>
    dsimp only at h hres hn hdg
    have hn : n = 1 := hn.resolve_right (fun ⟨_, _, _, _, q⟩ => by cases q)
    subst hn
    split at h
    · exact W.lcmp hx hb hdg (h.2 lk H locs hLR hM hS)
    · exact h.elim
  | ifCond cd off =>
    dsimp only at h hres hn hdg
    have hn : n = 3 := hn.resolve_right (fun ⟨_, _, _, _, q⟩ => by cases q)
    subst hn
    split at h
    · cases cd with
      | eq =>
        refine lv_if_eq hx hb hdg (of_decide_eq_true hres) (fun hc => ?_) (fun hc => ?_)
        · rw [show (@ite OUT (cOk .eq _ _) (cDec .eq _ _) _ _) = _ from if_pos hc] at h
          exact h.2 lk H locs hLR hM hS
        · rw [show (@ite OUT (cOk .eq _ _) (cDec .eq _ _) _ _) = _ from if_neg hc] at h
          exact h.2 lk H locs hLR hM hS
      | ne =>
        refine lv_if_ne hx hb hdg (of_decide_eq_true hres) (fun hc => ?_) (fun hc => ?_)
        · rw [show (@ite OUT (cOk .ne _ _) (cDec .ne _ _) _ _) = _ from if_pos hc] at h
          exact h.2 lk H locs hLR hM hS
        · rw [show (@ite OUT (cOk .ne _ _) (cDec .ne _ _) _ _) = _ from if_neg (fun q => q hc)] at h
          exact h.2 lk H locs hLR hM hS
      | lt =>
        refine lv_if_lt hx hb hdg (of_decide_eq_true hres) (fun hc => ?_) (fun hc => ?_)
        · rw [show (@ite OUT (cOk .lt _ _) (cDec .lt _ _) _ _) = _ from if_pos hc] at h
          exact h.2 lk H locs hLR hM hS
        · rw [show (@ite OUT (cOk .lt _ _) (cDec .lt _ _) _ _) = _ from if_neg hc] at h
          exact h.2 lk H locs hLR hM hS
      | ge =>
        refine lv_if_ge hx hb hdg (of_decide_eq_true hres) (fun hc => ?_) (fun hc => ?_)
        · rw [show (@ite OUT (cOk .ge _ _) (cDec .ge _ _) _ _) = _ from if_pos hc] at h
          exact h.2 lk H locs hLR hM hS
        · rw [show (@ite OUT (cOk .ge _ _) (cDec .ge _ _) _ _) = _ from if_neg hc] at h
          exact h.2 lk H locs hLR hM hS
      | gt =>
        refine lv_if_gt hx hb hdg (of_decide_eq_true hres) (fun hc => ?_) (fun hc => ?_)
        · rw [show (@ite OUT (cOk .gt _ _) (cDec .gt _ _) _ _) = _ from if_pos hc] at h
          exact h.2 lk H locs hLR hM hS
        · rw [show (@ite OUT (cOk .gt _ _) (cDec .gt _ _) _ _) = _ from if_neg hc] at h
          exact h.2 lk H locs hLR hM hS
      | le =>
        refine lv_if_le hx hb hdg (of_decide_eq_true hres) (fun hc => ?_) (fun hc => ?_)
        · rw [show (@ite OUT (cOk .le _ _) (cDec .le _ _) _ _) = _ from if_pos hc] at h
          exact h.2 lk H locs hLR hM hS
        · rw [show (@ite OUT (cOk .le _ _) (cDec .le _ _) _ _) = _ from if_neg hc] at h
          exact h.2 lk H locs hLR hM hS
    · exact h.elim
  | if_icmp cd off =>
    dsimp only at h hres hn hdg
    have hn : n = 3 := hn.resolve_right (fun ⟨_, _, _, _, q⟩ => by cases q)
    subst hn
    split at h
    · cases cd with
      | eq =>
        refine lv_icmp_eq hx hb hdg (of_decide_eq_true hres) (fun hc => ?_) (fun hc => ?_)
        · rw [show (@ite OUT (cOk .eq _ _) (cDec .eq _ _) _ _) = _ from if_pos hc] at h
          exact h.2 lk H locs hLR hM hS
        · rw [show (@ite OUT (cOk .eq _ _) (cDec .eq _ _) _ _) = _ from if_neg hc] at h
          exact h.2 lk H locs hLR hM hS
      | ne =>
        refine lv_icmp_ne hx hb hdg (of_decide_eq_true hres) (fun hc => ?_) (fun hc => ?_)
        · rw [show (@ite OUT (cOk .ne _ _) (cDec .ne _ _) _ _) = _ from if_pos hc] at h
          exact h.2 lk H locs hLR hM hS
        · rw [show (@ite OUT (cOk .ne _ _) (cDec .ne _ _) _ _) = _ from if_neg (fun q => q hc)] at h
          exact h.2 lk H locs hLR hM hS
      | lt =>
        refine lv_icmp_lt hx hb hdg (of_decide_eq_true hres) (fun hc => ?_) (fun hc => ?_)
        · rw [show (@ite OUT (cOk .lt _ _) (cDec .lt _ _) _ _) = _ from if_pos hc] at h
          exact h.2 lk H locs hLR hM hS
        · rw [show (@ite OUT (cOk .lt _ _) (cDec .lt _ _) _ _) = _ from if_neg hc] at h
          exact h.2 lk H locs hLR hM hS
      | ge =>
        refine lv_icmp_ge hx hb hdg (of_decide_eq_true hres) (fun hc => ?_) (fun hc => ?_)
        · rw [show (@ite OUT (cOk .ge _ _) (cDec .ge _ _) _ _) = _ from if_pos hc] at h
          exact h.2 lk H locs hLR hM hS
        · rw [show (@ite OUT (cOk .ge _ _) (cDec .ge _ _) _ _) = _ from if_neg hc] at h
          exact h.2 lk H locs hLR hM hS
      | gt =>
        refine lv_icmp_gt hx hb hdg (of_decide_eq_true hres) (fun hc => ?_) (fun hc => ?_)
        · rw [show (@ite OUT (cOk .gt _ _) (cDec .gt _ _) _ _) = _ from if_pos hc] at h
          exact h.2 lk H locs hLR hM hS
        · rw [show (@ite OUT (cOk .gt _ _) (cDec .gt _ _) _ _) = _ from if_neg hc] at h
          exact h.2 lk H locs hLR hM hS
      | le =>
        refine lv_icmp_le hx hb hdg (of_decide_eq_true hres) (fun hc => ?_) (fun hc => ?_)
        · rw [show (@ite OUT (cOk .le _ _) (cDec .le _ _) _ _) = _ from if_pos hc] at h
          exact h.2 lk H locs hLR hM hS
        · rw [show (@ite OUT (cOk .le _ _) (cDec .le _ _) _ _) = _ from if_neg hc] at h
          exact h.2 lk H locs hLR hM hS
    · exact h.elim
  | ifnull off =>
    dsimp only at h hres hn hdg
    have hn : n = 3 := hn.resolve_right (fun ⟨_, _, _, _, q⟩ => by cases q)
    subst hn
    split at h
    · rename_i r st
      cases r with
      | none =>
        rw [if_pos rfl] at h
        exact lv_ifnullN hx hb hdg (of_decide_eq_true hres) (h.2 lk H locs hLR hM hS)
      | some r =>
        rw [if_neg (fun q => by cases q)] at h
        exact lv_ifnull hx hb hdg (h.2 lk H locs hLR hM hS)
    · exact h.elim
  | ifnonnull off =>
    dsimp only at h hres hn hdg
    have hn : n = 3 := hn.resolve_right (fun ⟨_, _, _, _, q⟩ => by cases q)
    subst hn
    split at h
    · rename_i r st
      cases r with
      | none =>
        rw [if_pos rfl] at h
        exact lv_ifnonnullN hx hb hdg (h.2 lk H locs hLR hM hS)
      | some r =>
        rw [if_neg (fun q => by cases q)] at h
        exact lv_ifnonnull hx hb hdg (of_decide_eq_true hres) (h.2 lk H locs hLR hM hS)
    · exact h.elim
  | goto off =>
    dsimp only at h hres hn hdg
    have hn : n = 3 := hn.resolve_right (fun ⟨_, _, _, _, q⟩ => by cases q)
    subst hn
    exact lv_goto hx hb hdg (of_decide_eq_true hres) (h.2 lk H locs hLR hM hS)
  | tableswitch d0 lo hi offs =>
    dsimp only at h hres hn hdg
    simp only [Bool.and_eq_true, decide_eq_true_eq] at hres
    split at h
    · rename_i x st
      exact tsw_ok hx hb hdg hres.1.1.1.1.1 hres.1.1.1.1.2 hres.1.1.1.2 hres.1.1.2 hres.1.2 hres.2 h hLR hM hS
    · exact h.elim
  | dup =>
    dsimp only at h hres hn hdg
    have hn : n = 1 := hn.resolve_right (fun ⟨_, _, _, _, q⟩ => by cases q)
    subst hn
    split at h
    · exact lv_dup hx hb hdg rfl (h.2 lk H locs hLR hM hS)
    · rename_i r st
      cases r with
      | none => exact lv_dup hx hb hdg rfl (h.2 lk H locs hLR hM hS)
      | some r => exact lv_dup hx hb hdg rfl (h.2 lk H locs hLR hM hS)
    · exact h.elim
  | dup2 =>
    dsimp only at h hres hn hdg
    have hn : n = 1 := hn.resolve_right (fun ⟨_, _, _, _, q⟩ => by cases q)
    subst hn
    split at h
    · rename_i x r st
      cases r with
      | none => exact lv_dup2_11 hx hb hdg rfl rfl (h.2 lk H locs hLR hM hS)
      | some r => exact lv_dup2_11 hx hb hdg rfl rfl (h.2 lk H locs hLR hM hS)
    · exact h.elim
  | pop =>
    dsimp only at h hres hn hdg
    have hn : n = 1 := hn.resolve_right (fun ⟨_, _, _, _, q⟩ => by cases q)
    subst hn
    split at h
    · exact lv_pop hx hb hdg rfl (h.2 lk H locs hLR hM hS)
    · rename_i r st
      cases r with
      | none => exact lv_pop hx hb hdg rfl (h.2 lk H locs hLR hM hS)
      | some r => exact lv_pop hx hb hdg rfl (h.2 lk H locs hLR hM hS)
    · exact h.elim
  | getfield i0 =>
    dsimp only at h hres hn hdg
    have hn : n = 3 := hn.resolve_right (fun ⟨_, _, _, _, q⟩ => by cases q)
    subst hn
    simp only [Bool.and_eq_true] at hres
    split at h
    · rename_i r st
      obtain ⟨a0, rfl, h⟩ := sat_ons h
      obtain ⟨hk, h⟩ := sat_ite h
      have hlt : a < 14 := by simpa using hres.2
      have hb2 : b < nfL.getD a 0 := by simpa using hres.1.2
      have hmem := List.contains_iff_mem.mp hres.1.1
      have hnx : NXp p l e R s m args below meth c Q Γ y z0 l0 (pc + 3) ls ((if XF.2 a b = 1 then vR (pR M a0 b) else vI (pI M a0 b)) :: st) M := by
        split at h
        · rename_i hq
          rw [if_pos hq]
          exact h
        · rename_i hq
          rw [if_neg hq]
          exact h
      have hval : tvF Γ (if XF.2 a b = 1 then vR (pR M a0 b) else vI (pI M a0 b)) = teF Γ M a0 a b := by
        unfold teF
        split
        · rename_i hq
          rw [hq]
          rfl
        · rename_i hq
          split
          · rename_i hq2
            exact absurd hq2 hq
          · rfl
      have hkk := hnx.2 lk H locs hLR hM hS
      rw [List.map_cons, hval] at hkk
      by_cases h13 : a < 13
      · exact m_get hx hb hown hE hM hk hlt (hM.nw13 (by omega)) hb2 hmem hdg hkk
      · have e13 : a = 13 := by omega
        subst e13
        rcases hM.str hk with ⟨hn, -⟩ | ⟨j, hj, ea⟩
        · exact m_get hx hb hown hE hM hk hlt hn hb2 hmem hdg hkk
        · by_cases hk2 : b < 2
          · exact m_getS hx hb hown hE hH hM hS hj ea hk2 hmem hdg hkk
          · have : fTab.all (fun t => bif Nat.beq t.2.2.1 13 then Nat.blt t.2.2.2 2 else true) = true := by decide +kernel
            have := List.all_eq_true.mp this _ hmem
            simp at this
            omega
    · exact h.elim
  | putfield i0 =>
    dsimp only at h hres hn hdg
    have hn : n = 3 := hn.resolve_right (fun ⟨_, _, _, _, q⟩ => by cases q)
    subst hn
    simp only [Bool.and_eq_true, Bool.or_eq_true, Bool.not_eq_true'] at hres
    obtain ⟨⟨⟨hm0, hb0⟩, hk0⟩, hf0⟩ := hres
    have h14 : a < 14 := by
      rcases hk0 with q | q
      · have : a < 13 := by simpa using q
        omega
      · have := Nat.eq_of_beq_eq_true q.1
        omega
    have hb2 : b < nfL.getD a 0 := by simpa using hb0
    have hmem := List.contains_iff_mem.mp hm0
    have hfin : (fnL.getD a []).getD b true = false ∨ (meth.name = "<init>" ∧ mcL.getD y 99 = a) := by
      rcases hf0 with q | q
      · exact Or.inl q
      · exact Or.inr ⟨hini q.1, Nat.eq_of_beq_eq_true q.2⟩
    have hnil : li = [] → a < 13 := fun e => by
      rcases hk0 with q | q
      · simpa using q
      · rw [e] at q
        exact absurd q.2 (by simp)
    split at h
    · rename_i v r st
      obtain ⟨a0, rfl, h⟩ := sat_ons h
      obtain ⟨hk, h⟩ := sat_ite h
      have hput : ∀ hnw : nwP Γ a0, XF.2 a b = 1 → NXp p l e R s m args below meth c Q Γ y z0 l0 (pc + 3) ls st (setR M a0 b v) → W p l e R s m args below meth c H locs (pSz M - z0) (pSl M - l0) Q (F0 m pc lk ((vR v :: vR (some a0) :: st).map (tvF Γ))) := fun hnw hq h => by
        refine m_put (M' := setR M a0 b v) hx hb hown hE hM hS hk h14 hnw hb2 hmem hfin rfl rfl rfl (fun _ _ _ => rfl) (fun b' j hj => ?_) ?_ (Or.inr (Or.inr (Or.inl ⟨hq, _, rfl⟩))) hdg (fun H1 locs1 hM1 hS1 => h.2 lk H1 locs1 hLR hM1 hS1)
        · show up2 (pR M) a0 b v b' j = _
          unfold up2
          rw [if_neg (by omega)]
        · unfold teF
          rw [hq]
          show va_rf ((up2 (pR M) a0 b v a0 b).map (adF Γ)) = _
          unfold up2
          rw [if_pos ⟨rfl, rfl⟩]
          rfl
      split at h
      · rename_i hq
        split at h
        · exact hput (hM.nw13 (by rw [hk]; exact hnil rfl)) hq h
        · obtain ⟨h159, h⟩ := sat_ite h
          exact hput (nw159 h159) hq h
      · exact h.elim
    · rename_i v r st
      obtain ⟨a0, rfl, h⟩ := sat_ons h
      obtain ⟨hk, h⟩ := sat_ite h
      have hup : ∀ b' j, b' ≠ a0 ∨ j ≠ b → pI (setI M a0 b v) b' j = pI M b' j := fun b' j hj => by
        show up2 (pI M) a0 b v b' j = _
        unfold up2
        rw [if_neg (by omega)]
      have hte : XF.2 a b ≠ 1 → teF Γ (setI M a0 b v) a0 a b = .int v := fun hq => by
        unfold teF
        split
        · rename_i q
          exact absurd q hq
        · show Value.int (up2 (pI M) a0 b v a0 b) = _
          unfold up2
          rw [if_pos ⟨rfl, rfl⟩]
      have hn13 : ∀ q : XF.2 a b = 0 ∨ XF.2 a b = 2, nwP Γ a0 := fun q => by
        refine hM.nw13 ?_
        rw [hk]
        refine Nat.not_le.mp fun q2 => ?_
        have e13 : a = 13 := by omega
        subst e13
        have : fTab.all (fun t => bif Nat.beq t.2.2.1 13 then Nat.blt t.2.2.2 2 else true) = true := by decide +kernel
        have := List.all_eq_true.mp this _ hmem
        simp at this
        rcases (by omega : b = 0 ∨ b = 1) with rfl | rfl <;> rcases q with q | q <;> exact absurd q (by decide)
      split at h
      · rename_i hq
        exact m_put (M' := setI M a0 b v) hx hb hown hE hM hS hk h14 (hn13 (Or.inl hq)) hb2 hmem hfin rfl rfl rfl hup (fun _ _ _ => rfl) (hte (by rw [hq]; decide)) (Or.inl ⟨hq, _, rfl⟩) hdg (fun H1 locs1 hM1 hS1 => h.2 lk H1 locs1 hLR hM1 hS1)
      · rename_i hq
        obtain ⟨hv, h⟩ := sat_ite h
        exact m_put (M' := setI M a0 b v) hx hb hown hE hM hS hk h14 (hn13 (Or.inr hq)) hb2 hmem hfin rfl rfl rfl hup (fun _ _ _ => rfl) (hte (by rw [hq]; decide)) (Or.inr (Or.inl ⟨hq, by rcases hv with rfl | rfl; exact Or.inl rfl; exact Or.inr rfl⟩)) hdg (fun H1 locs1 hM1 hS1 => h.2 lk H1 locs1 hLR hM1 hS1)
      · rename_i hq
        obtain ⟨hv, h⟩ := sat_ite h
        have hput : ∀ hnw : nwP Γ a0, NXp p l e R s m args below meth c Q Γ y z0 l0 (pc + 3) ls st (setI M a0 b v) → W p l e R s m args below meth c H locs (pSz M - z0) (pSl M - l0) Q (F0 m pc lk ((vI v :: vR (some a0) :: st).map (tvF Γ))) := fun hnw h =>
          m_put (M' := setI M a0 b v) hx hb hown hE hM hS hk h14 hnw hb2 hmem hfin rfl rfl rfl hup (fun _ _ _ => rfl) (hte (by rw [hq]; decide)) (Or.inr (Or.inr (Or.inr ⟨hq, _, rfl, hv⟩))) hdg (fun H1 locs1 hM1 hS1 => h.2 lk H1 locs1 hLR hM1 hS1)
        split at h
        · exact hput (hM.nw13 (by rw [hk]; exact hnil rfl)) h
        · obtain ⟨h159, h⟩ := sat_ite h
          exact hput (nw159 h159) h
      · exact h.elim
    · exact h.elim
  | getstatic i0 =>
    dsimp only at h hres hn hdg
    have hn : n = 3 := hn.resolve_right (fun ⟨_, _, _, _, q⟩ => by cases q)
    subst hn
    have hG := hM.2.2.2.2.2.2
    have hdig : ∀ w, w < 2 → (mcL.getD y 99, i0, w + 1) ∈ gsTab → NXp p l e R s m args below meth c Q Γ y z0 l0 (pc + 3) ls (vR (some (142 + w)) :: st) M → W p l e R s m args below meth c H locs (pSz M - z0) (pSl M - l0) Q (F0 m pc lk (st.map (tvF Γ))) := fun w hw hmem h => by
      have hk := h.2 lk H locs hLR hM hS
      have e1 : tvF Γ (vR (some (142 + w))) = .ref (cxA Γ (142 + w)) := by
        show Value.ref (adF Γ _) = _
        rw [adF_old (by omega) (by omega) hG]
      rw [List.map_cons, e1] at hk
      exact va_gets hx hb (hH.2.2.2.2.2.2 w hw).1 hS hown (hE.1 _ (w_gsT _ hmem) rfl args) (fun _ h => h) hdg hk
    cases a with
    | zero =>
      dsimp only at h hres
      simp only [Bool.and_eq_true, decide_eq_true_eq] at hres
      rw [hres.2] at h
      exact va_gets hx hb hH.2.1 hS hown (hE.1 _ (w_gsT _ (List.contains_iff_mem.mp hres.1)) rfl args) (fun _ h => h) hdg (h.2 lk H locs hLR hM hS)
    | succ a =>
      cases a with
      | zero =>
        dsimp only at h hres
        simp only [Bool.and_eq_true] at hres
        obtain rfl : b = 142 := Nat.eq_of_beq_eq_true hres.2
        exact hdig 0 (by decide) (List.contains_iff_mem.mp hres.1) h
      | succ a =>
        dsimp only at h hres
        simp only [Bool.and_eq_true] at hres
        obtain rfl : b = 143 := Nat.eq_of_beq_eq_true hres.2
        exact hdig 1 (by decide) (List.contains_iff_mem.mp hres.1) h
  | iaload =>
    dsimp only at h hres hn hdg
    have hn : n = 1 := hn.resolve_right (fun ⟨_, _, _, _, q⟩ => by cases q)
    subst hn
    rw [Bool.or_eq_true] at hres
    rcases hres with q | q
    · obtain rfl : a = 20 := Nat.eq_of_beq_eq_true q
      split at h
      · rename_i i r st
        obtain ⟨a0, rfl, h⟩ := sat_ons h
        obtain ⟨hk, h⟩ := sat_ite h
        obtain ⟨hi, h⟩ := sat_ite h
        exact m_ald hx hb hE hM hk hi hdg (h.2 lk H locs hLR hM hS)
      · exact h.elim
    · obtain rfl : a = 19 := Nat.eq_of_beq_eq_true q
      split at h
      · rename_i i r st
        obtain ⟨a0, rfl, h⟩ := sat_ons h
        obtain ⟨hk, h⟩ := sat_ite h
        obtain ⟨hi, h⟩ := sat_ite h
        exact m_alds hx hb hH hM hS hk hi hdg (h.2 lk H locs hLR hM hS)
      · exact h.elim
  | baload =>
    dsimp only at h hres hn hdg
    have hn : n = 1 := hn.resolve_right (fun ⟨_, _, _, _, q⟩ => by cases q)
    subst hn
    split at h
    · rename_i i r st
      obtain ⟨a0, rfl, h⟩ := sat_ons h
      obtain ⟨hk, h⟩ := sat_ite h
      obtain ⟨hi, h⟩ := sat_ite h
      exact m_bald hx hb hE hH hM hS hk hi hdg (h.2 lk H locs hLR hM hS)
    · exact h.elim
  | iastore =>
    dsimp only at h hres hn hdg
    have hn : n = 1 := hn.resolve_right (fun ⟨_, _, _, _, q⟩ => by cases q)
    subst hn
    split at h
    · rename_i v i r st
      obtain ⟨a0, rfl, h⟩ := sat_ons h
      obtain ⟨hk, h⟩ := sat_ite h
      obtain ⟨hi, h⟩ := sat_ite h
      exact m_ast hx hb hE hM hS hk hi hdg (fun H1 locs1 hM1 hS1 => h.2 lk H1 locs1 hLR hM1 hS1)
    · exact h.elim
  | bastore =>
    dsimp only at h hres hn hdg
    have hn : n = 1 := hn.resolve_right (fun ⟨_, _, _, _, q⟩ => by cases q)
    subst hn
    split at h
    · rename_i v i r st
      obtain ⟨a0, rfl, h⟩ := sat_ons h
      obtain ⟨hk, h⟩ := sat_ite h
      obtain ⟨hi, h⟩ := sat_ite h
      exact m_bast hx hb hE hM hS hk.1 hk.2 hi hdg (fun H1 locs1 hM1 hS1 => h.2 lk H1 locs1 hLR hM1 hS1)
    · exact h.elim
  | aaload =>
    dsimp only at h hres hn hdg
    have hn : n = 1 := hn.resolve_right (fun ⟨_, _, _, _, q⟩ => by cases q)
    subst hn
    split at h
    · rename_i i r st
      cases a with
      | zero =>
        dsimp only at h
        obtain ⟨a0, rfl, h⟩ := sat_ons h
        obtain ⟨hk, h⟩ := sat_ite h
        obtain ⟨hi, h⟩ := sat_ite h
        exact m_aldq hx hb hE hM ⟨hk.1, by omega⟩ hi hdg (h.2 lk H locs hLR hM hS)
      | succ a =>
        dsimp only at h
        obtain ⟨a0, rfl, h⟩ := sat_ons h
        obtain ⟨hk, h⟩ := sat_ite h
        obtain ⟨hi, h⟩ := sat_ite h
        have h2 : a + 1 = 26 ∨ a + 1 = 27 := by
          simp only [Bool.or_eq_true] at hres
          rcases hres with q | q | q
          · exact absurd (Nat.eq_of_beq_eq_true q) (by omega)
          · exact Or.inl (Nat.eq_of_beq_eq_true q)
          · exact Or.inr (Nat.eq_of_beq_eq_true q)
        exact m_aldq hx hb hE hM ⟨by omega, by omega⟩ hi hdg (h.2 lk H locs hLR hM hS)
    · exact h.elim
  | aastore =>
    dsimp only at h hres hn hdg
    have hn : n = 1 := hn.resolve_right (fun ⟨_, _, _, _, q⟩ => by cases q)
    subst hn
    split at h
    · rename_i v i r st
      cases a with
      | zero =>
        dsimp only at h
        obtain ⟨a0, rfl, h⟩ := sat_ons h
        obtain ⟨hk, h⟩ := sat_ite h
        obtain ⟨hi, h⟩ := sat_ite h
        obtain ⟨hv, h⟩ := sat_ite h
        exact m_astq hx hb hE hH hM hS ⟨hk.1, by omega⟩ hi hv hdg (fun H1 locs1 hM1 hS1 => h.2 lk H1 locs1 hLR hM1 hS1)
      | succ a =>
        dsimp only at h
        obtain ⟨a0, e1, h⟩ := sat_ons h
        obtain ⟨b0, e2, h⟩ := sat_ons h
        subst e1 e2
        obtain ⟨hk, h⟩ := sat_ite h
        obtain ⟨hi, h⟩ := sat_ite h
        exact m_astq (v := some b0) hx hb hE hH hM hS ⟨by omega, by omega⟩ hi (fun b hb => by cases hb; rw [hk.1, hk.2]; rfl) hdg (fun H1 locs1 hM1 hS1 => h.2 lk H1 locs1 hLR hM1 hS1)
    · exact h.elim
  | arraylength =>
    dsimp only at h hres hn hdg
    have hn : n = 1 := hn.resolve_right (fun ⟨_, _, _, _, q⟩ => by cases q)
    subst hn
    split at h
    · rename_i r st
      obtain ⟨a0, rfl, h⟩ := sat_ons h
      obtain ⟨hk, h⟩ := sat_ite h
      exact m_alen hx hb hE hH hM hS hk hdg (h.2 lk H locs hLR hM hS)
    · exact h.elim
  | newarray t0 =>
    dsimp only at h hres hn hdg
    have hn : n = 2 := hn.resolve_right (fun ⟨_, _, _, _, q⟩ => by cases q)
    subst hn
    split at h
    · rename_i n0 st
      cases a with
      | zero =>
        dsimp only at h hres
        obtain rfl : t0 = .int := of_decide_eq_true hres
        obtain ⟨hn0, h⟩ := sat_ite h
        have g1 : pSz (mkN M kInt (ixN n0)) - z0 = pSz M - z0 + 1 := by show pSz M + 1 - z0 = _; omega
        have g2 : pSl (mkN M kInt (ixN n0)) - l0 = pSl M - l0 + ixN n0 := by show pSl M + ixN n0 - l0 = _; omega
        have hB := h.1
        rw [g1, g2] at hB
        refine m_newi hx hb hE hM hS hn0.1 hn0.2 hB.1 hB.2 hdg (fun H1 hM1 hS1 => ?_)
        have hk := h.2 lk H1 locs hLR hM1 hS1
        rw [g1, g2] at hk
        exact hk
      | succ a =>
        dsimp only at h hres
        obtain rfl : t0 = .byte := of_decide_eq_true hres
        obtain ⟨hn0, h⟩ := sat_ite h
        have g1 : pSz (mkN M kByt (ixN n0)) - z0 = pSz M - z0 + 1 := by show pSz M + 1 - z0 = _; omega
        have g2 : pSl (mkN M kByt (ixN n0)) - l0 = pSl M - l0 + ixN n0 := by show pSl M + ixN n0 - l0 = _; omega
        have hB := h.1
        rw [g1, g2] at hB
        refine m_newb hx hb hE hM hS hn0.1 hn0.2 hB.1 hB.2 hdg (fun H1 hM1 hS1 => ?_)
        have hk := h.2 lk H1 locs hLR hM1 hS1
        rw [g1, g2] at hk
        exact hk
    · exact h.elim
  | multianewarray i0 d0 =>
    dsimp only at h hres hn hdg
    have hn : n = 4 := hn.resolve_right (fun ⟨_, _, _, _, q⟩ => by cases q)
    subst hn
    simp only [Bool.and_eq_true] at hres
    have e1 : mcL.getD y 99 = 18 := Nat.eq_of_beq_eq_true hres.1.1
    obtain rfl : i0 = 37 := Nat.eq_of_beq_eq_true hres.1.2
    obtain rfl : d0 = 2 := Nat.eq_of_beq_eq_true hres.2
    rw [e1] at hown
    split at h
    · rename_i k0 n0 st
      obtain ⟨hn0, h⟩ := sat_ite h
      have g1 : pSz (mkG M (ixN n0) (ixN k0)) - z0 = pSz M - z0 + 1 + ixN n0 := by show pSz M + (1 + ixN n0) - z0 = _; omega
      have g2 : pSl (mkG M (ixN n0) (ixN k0)) - l0 = pSl M - l0 + ixN n0 + ixN n0 * ixN k0 := by show pSl M + (ixN n0 + ixN n0 * ixN k0) - l0 = _; omega
      have hB := h.1
      rw [g1, g2] at hB
      refine m_mna hx hb hown hE hM hS hn0.1 hn0.2.1 hn0.2.2.1 hn0.2.2.2 (by omega) (by omega) hdg (fun H1 hM1 hS1 => ?_)
      have hk := h.2 lk H1 locs hLR hM1 hS1
      rw [g1, g2] at hk
      exact hk
    · exact h.elim
  | anewarray i0 =>
    dsimp only at h hres hn hdg
    have hn : n = 3 := hn.resolve_right (fun ⟨_, _, _, _, q⟩ => by cases q)
    subst hn
    simp only [Bool.and_eq_true] at hres
    split at h
    · rename_i n0 st
      obtain ⟨hn0, h⟩ := sat_ite h
      have g1 : pSz (mkN M a (ixN n0)) - z0 = pSz M - z0 + 1 := by show pSz M + 1 - z0 = _; omega
      have g2 : pSl (mkN M a (ixN n0)) - l0 = pSl M - l0 + ixN n0 := by show pSl M + ixN n0 - l0 = _; omega
      have hB := h.1
      rw [g1, g2] at hB
      refine m_newq hx hb hown hE hM hS ⟨Nat.le_of_ble_eq_true hres.1.2, by simpa using hres.2⟩ (List.contains_iff_mem.mp hres.1.1) hn0.1 hn0.2 hB.1 hB.2 hdg (fun H1 hM1 hS1 => ?_)
      have hk := h.2 lk H1 locs hLR hM1 hS1
      rw [g1, g2] at hk
      exact hk
    · exact h.elim
  | new i0 =>
    dsimp only at h hres hn hdg
    have hn : n = 3 := hn.resolve_right (fun ⟨_, _, _, _, q⟩ => by cases q)
    subst hn
    simp only [Bool.and_eq_true] at hres
    have g1 : pSz (mkN M a (XF.1 a)) - z0 = pSz M - z0 + 1 := by show pSz M + 1 - z0 = _; omega
    have g2 : pSl (mkN M a (XF.1 a)) - l0 = pSl M - l0 + XF.1 a := by show pSl M + XF.1 a - l0 = _; omega
    have hB := h.1
    rw [g1, g2] at hB
    refine m_new hx hb hown hE hM hS (by simpa using hres.2) (List.contains_iff_mem.mp hres.1) hB.1 hB.2 hdg (fun H1 hM1 hS1 => ?_)
    have hk := h.2 lk H1 locs hLR hM1 hS1
    rw [g1, g2] at hk
    exact hk
  | invokespecial i0 =>
    dsimp only at h hres hn hdg
    have hn : n = 3 := hn.resolve_right (fun ⟨_, _, _, _, q⟩ => by cases q)
    subst hn
    cases b with
    | zero =>
      dsimp only at h hres
      split at h
      · rename_i d0 r st
        split at h
        · rename_i hq
          obtain ⟨a0, rfl, h⟩ := sat_ons h
          have hq4 := Nat.le_of_ble_eq_true hq
          have hcs := catsum (Γ := Γ) st
          exact W.objInit hx hb hown (hE.1 _ (w_oiT _ (List.contains_iff_mem.mp hres)) rfl args) (hE.1 _ w_oiI rfl args) (hE.1 _ w_oiC rfl args) rfl (by rw [hml]; exact hLR.2.1) rfl hdg (by omega) (by show 2 * 0 + _ + 12 ≤ _; omega) (h.2 lk H locs hLR hM hS)
        · exact h.elim
      · exact h.elim
    | succ nn =>
      dsimp only at h hres
      simp only [Bool.and_eq_true, Bool.not_eq_true', Bool.or_eq_true] at hres
      split at h
      · rename_i hok
        split at h
        · rename_i r st2 hst
          split at h
          · rename_i hq
            obtain ⟨a0, rfl, h⟩ := sat_ons h
            obtain ⟨hk, h⟩ := sat_ite h
            unfold okC at hok
            rw [Bool.and_eq_true] at hok
            have hlen : (st.take nn).length = nn := Nat.eq_of_beq_eq_true hok.1
            have hsp : st = st.take nn ++ (vR (some a0) :: st2) := by rw [← hst, List.take_append_drop]
            have hmem := List.contains_iff_mem.mp hres.1.1.1
            have hk2 := h pc lk H locs rfl ⟨by simpa [notL] using hok.2, by rw [List.length_cons, List.length_reverse, hlen]; exact (Nat.eq_of_beq_eq_true hres.1.1.2).symm, i0, by
              rcases hres.2 with q | q
              · exact Or.inr (Or.inr (Or.inl ⟨hmem, hdg, hres.1.2, q, a0, _, rfl⟩))
              · have e19 := Nat.eq_of_beq_eq_true q.2
                exact Or.inr (Or.inr (Or.inr (Or.inr (Or.inr ⟨hmem, Nat.eq_of_beq_eq_true q.1.2, hdg, hres.1.2, q.1.1, e19, a0, _, rfl, by rw [hk]; exact rc_19 (mT_lt hmem) e19⟩))))⟩ (Nat.le_of_ble_eq_true hq) hLR hM hS
            rw [List.reverse_cons, List.reverse_reverse, List.append_assoc] at hk2
            rw [hsp]
            exact hk2
          · exact h.elim
        · exact h.elim
      · exact h.elim
  | invokevirtual i0 =>
    dsimp only at h hres hn hdg
    have hn : n = 3 := hn.resolve_right (fun ⟨_, _, _, _, q⟩ => by cases q)
    subst hn
    cases li with
    | cons q0 q1 =>
      cases q1 with
      | nil =>
        dsimp only at h hres
        split at h
        · rename_i d0 r st
          split at h
          · rename_i hq
            obtain ⟨a0, rfl, h⟩ := sat_ons h
            obtain ⟨hk, h⟩ := sat_ite h
            have hq4 := Nat.le_of_ble_eq_true hq
            have hcs := catsum (Γ := Γ) st
            have e1 : mcL.getD y 99 = 17 := Nat.eq_of_beq_eq_true (Bool.and_eq_true_iff.mp hres).1
            obtain rfl : i0 = 316 := Nat.eq_of_beq_eq_true (Bool.and_eq_true_iff.mp hres).2
            rw [e1] at hown
            have g1 : pSz (cpyM (mkN M kInt (pLn M a0)) a0 (pSz M) 0 0 (pLn M a0)) - z0 = pSz M - z0 + 1 := by show pSz M + 1 - z0 = _; omega
            have g2 : pSl (cpyM (mkN M kInt (pLn M a0)) a0 (pSz M) 0 0 (pLn M a0)) - l0 = pSl M - l0 + pLn M a0 := by show pSl M + pLn M a0 - l0 = _; omega
            have hB := h.1
            rw [g1, g2] at hB
            refine m_clone hx hb (by rw [hml]; exact hLR.2.1.symm) hown hE hM hS hk (by omega) (by omega) hB.1 hB.2 hdg (fun H1 hM1 hS1 => ?_)
            have hk2 := h.2 lk H1 locs hLR hM1 hS1
            rw [g1, g2] at hk2
            exact hk2
          · exact h.elim
        · exact h.elim
      | cons q1 q2 =>
        dsimp only at h hres
        split at h
        · rename_i d0 r st
          split at h
          · rename_i hq
            obtain ⟨a0, rfl, h⟩ := sat_ons h
            obtain ⟨hk, h⟩ := sat_ite h
            have hq4 := Nat.le_of_ble_eq_true hq
            have hcs := catsum (Γ := Γ) st
            have e1 : mcL.getD y 99 = 17 := Nat.eq_of_beq_eq_true (Bool.and_eq_true_iff.mp hres).1
            obtain rfl : i0 = 310 := Nat.eq_of_beq_eq_true (Bool.and_eq_true_iff.mp hres).2
            rw [e1] at hown
            have g1 : pSz (cpyM (mkN M kByt (pLn M a0)) a0 (pSz M) 0 0 (pLn M a0)) - z0 = pSz M - z0 + 1 := by show pSz M + 1 - z0 = _; omega
            have g2 : pSl (cpyM (mkN M kByt (pLn M a0)) a0 (pSz M) 0 0 (pLn M a0)) - l0 = pSl M - l0 + pLn M a0 := by show pSl M + pLn M a0 - l0 = _; omega
            have hB := h.1
            rw [g1, g2] at hB
            refine m_cloneB hx hb (by rw [hml]; exact hLR.2.1.symm) hown hE hM hS hk.1 hk.2 (by omega) (by omega) hB.1 hB.2 hdg (fun H1 hM1 hS1 => ?_)
            have hk2 := h.2 lk H1 locs hLR hM1 hS1
            rw [g1, g2] at hk2
            exact hk2
          · exact h.elim
        · exact h.elim
    | nil =>
      dsimp only at h hres
      simp only [Bool.and_eq_true, Bool.not_eq_true', Bool.or_eq_true] at hres
      split at h
      · rename_i hok
        split at h
        · rename_i r st2 hst
          split at h
          · rename_i hq
            obtain ⟨a0, rfl, h⟩ := sat_ons h
            obtain ⟨hk, h⟩ := sat_ite h
            unfold okC at hok
            rw [Bool.and_eq_true] at hok
            have hlen : (st.take b).length = b := Nat.eq_of_beq_eq_true hok.1
            have hsp : st = st.take b ++ (vR (some a0) :: st2) := by rw [← hst, List.take_append_drop]
            have hk2 := h pc lk H locs rfl ⟨by simpa [notL] using hok.2, by rw [List.length_cons, List.length_reverse, hlen]; exact (Nat.eq_of_beq_eq_true hres.1.1.1).symm, i0, by
              rcases hres.2 with q | q | q
              · have hmem := List.contains_iff_mem.mp q.1
                have hlt : mcL.getD a 99 < 14 := by simpa using q.2
                exact Or.inr (Or.inl ⟨hmem, hdg, hres.1.1.2, hres.1.2, hlt, a0, _, rfl, by rw [hk]; exact rc_mc (mT_lt hmem) (by omega)⟩)
              · have hmem := List.contains_iff_mem.mp q.1.1
                have e19 := Nat.eq_of_beq_eq_true q.1.2
                exact Or.inr (Or.inr (Or.inr (Or.inl ⟨hmem, hdg, hres.1.1.2, hres.1.2, e19, (fun e => by have := q.2; rw [e] at this; exact absurd this (by decide)), a0, _, rfl, by rw [hk]; exact rc_19 (mT_lt hmem) e19⟩)))
              · have hmem := List.contains_iff_mem.mp q
                have e := uT_eq hmem
                have ea : a = m_SB_length := (Prod.mk.inj (Prod.mk.inj e).2).2
                exact Or.inr (Or.inr (Or.inr (Or.inr (Or.inl ⟨hmem, hdg, a0, _, rfl, by rw [hk, ea]; rfl⟩))))⟩ (Nat.le_of_ble_eq_true hq) hLR hM hS
            rw [List.reverse_cons, List.reverse_reverse, List.append_assoc] at hk2
            rw [hsp]
            exact hk2
          · exact h.elim
        · exact h.elim
      · exact h.elim
  | invokestatic i0 =>
    dsimp only at h hres hn hdg
    have hn : n = 3 := hn.resolve_right (fun ⟨_, _, _, _, q⟩ => by cases q)
    subst hn
    split at h
    · split at h
      · rename_i d0 n0 dp rd sp rs st
        split at h
        · rename_i hq
          obtain ⟨a0, e1, h1⟩ := sat_ons h
          clear h
          obtain ⟨b0, e2, h⟩ := sat_ons h1
          clear h1
          subst e1
          subst e2
          obtain ⟨hk, h⟩ := sat_ite h
          obtain ⟨hi, h⟩ := sat_ite h
          have hq4 := Nat.le_of_ble_eq_true hq
          have hcs := catsum (Γ := Γ) st
          refine m_cpy hx hb (by rw [hml]; exact hLR.2.1.symm) hown hE hM hS (List.contains_iff_mem.mp hres) hk.1 hk.2 hi.1 hi.2.1 hi.2.2.1 hi.2.2.2.1 hi.2.2.2.2 (by omega) ?_ hdg (fun H1 locs1 hM1 hS1 => h.2 lk H1 locs1 hLR hM1 hS1)
          have : nativeFrameWords "java/lang/System" "arraycopy" 5 + 11 ≤ 40 := by decide +kernel
          omega
        · exact h.elim
      · exact h.elim
    · split at h
      · rename_i d0 n0 dp rd sp rs st
        split at h
        · rename_i hq
          obtain ⟨a0, e1, h1⟩ := sat_ons h
          clear h
          obtain ⟨b0, e2, h⟩ := sat_ons h1
          clear h1
          subst e1
          subst e2
          obtain ⟨hk, h⟩ := sat_ite h
          obtain ⟨hi, h⟩ := sat_ite h
          have hq4 := Nat.le_of_ble_eq_true hq
          have hcs := catsum (Γ := Γ) st
          refine m_cpyB hx hb (by rw [hml]; exact hLR.2.1.symm) hown hE hH hM hS (List.contains_iff_mem.mp hres) hk.1 hk.2.1 hk.2.2 hi.1 hi.2.1 hi.2.2.1 hi.2.2.2.1 hi.2.2.2.2 (by omega) ?_ hdg (fun H1 locs1 hM1 hS1 => h.2 lk H1 locs1 hLR hM1 hS1)
          have : nativeFrameWords "java/lang/System" "arraycopy" 5 + 11 ≤ 40 := by decide +kernel
          omega
        · exact h.elim
      · exact h.elim
    · split at h
      · rename_i d0 n0 i1 st
        split at h
        · rename_i hq
          obtain ⟨hi, h⟩ := sat_ite h
          have hq4 := Nat.le_of_ble_eq_true hq
          have hcs := catsum (Γ := Γ) st
          have hm : (mcL.getD y 99, i0) ∈ ciTab := List.contains_iff_mem.mp hres
          have hm2 : mcL.getD y 99 = 14 ∧ i0 = 9 := by
            have : ciTab = [(14, 9)] := rfl
            rw [this] at hm
            simpa using hm
          obtain ⟨e1, rfl⟩ := hm2
          rw [e1] at hown
          exact m_chk hx hb (by rw [hml]; exact hLR.2.1) hown hE hH hM hS hi.1 hi.2 (by omega) (by omega) (by omega) h.1.1 h.1.2 hdg (fun H1 locs1 hM1 hS1 => h.2 lk H1 locs1 hLR hM1 hS1)
        · exact h.elim
      · exact h.elim
    · rename_i n9 n10 n8
      simp only [Bool.and_eq_true] at hres
      split at h
      · rename_i hok
        split at h
        · rename_i hq
          unfold okC at hok
          rw [Bool.and_eq_true] at hok
          have hlen : (st.take b).length = b := Nat.eq_of_beq_eq_true hok.1
          have hk2 := h pc lk H locs rfl ⟨by simpa using hok.2, by rw [List.length_reverse, hlen]; exact (Nat.eq_of_beq_eq_true hres.1.2).symm, i0, Or.inl ⟨List.contains_iff_mem.mp hres.1.1, hdg, hres.2⟩⟩ (Nat.le_of_ble_eq_true hq) hLR hM hS
          rw [List.reverse_reverse, List.take_append_drop] at hk2
          exact hk2
        · exact h.elim
      · exact h.elim
  | checkcast i0 =>
    dsimp only at h hres hn hdg
    have hn : n = 3 := hn.resolve_right (fun ⟨_, _, _, _, q⟩ => by cases q)
    subst hn
    split at h
    · rename_i r st
      cases a with
      | zero =>
        dsimp only at h hres
        rw [Bool.and_eq_true] at hres
        have e1 : mcL.getD y 99 = 17 := Nat.eq_of_beq_eq_true hres.1
        obtain rfl : i0 = 317 := Nat.eq_of_beq_eq_true hres.2
        rw [e1] at hown
        obtain ⟨a0, rfl, h⟩ := sat_ons h
        obtain ⟨hk, h⟩ := sat_ite h
        exact m_ccI hx hb hown hE hM hk hdg (h.2 lk H locs hLR hM hS)
      | succ a =>
        dsimp only at h hres
        rw [Bool.and_eq_true] at hres
        have e1 : mcL.getD y 99 = 17 := Nat.eq_of_beq_eq_true hres.1
        obtain rfl : i0 = 311 := Nat.eq_of_beq_eq_true hres.2
        rw [e1] at hown
        obtain ⟨a0, rfl, h⟩ := sat_ons h
        obtain ⟨hk, h⟩ := sat_ite h
        exact m_ccB hx hb hown hE hM hk.1 hk.2 hdg (h.2 lk H locs hLR hM hS)
    · exact h.elim
  | ireturn =>
    dsimp only at h hres hn hdg
    have hn : n = 1 := hn.resolve_right (fun ⟨_, _, _, _, q⟩ => by cases q)
    subst hn
    split at h
    · rename_i v
      obtain ⟨hv, h⟩ := sat_ite h
      exact h pc lk H locs (Or.inl ⟨hdg, v, rfl, hv⟩) hM hS
    · exact h.elim
  | lreturn =>
    dsimp only at h hres hn hdg
    have hn : n = 1 := hn.resolve_right (fun ⟨_, _, _, _, q⟩ => by cases q)
    subst hn
    split at h
    · rename_i v
      exact h pc lk H locs (Or.inr (Or.inl ⟨hdg, Nat.eq_of_beq_eq_true hres, v, rfl⟩)) hM hS
    · exact h.elim
  | areturn =>
    dsimp only at h hres hn hdg
    have hn : n = 1 := hn.resolve_right (fun ⟨_, _, _, _, q⟩ => by cases q)
    subst hn
    split at h
    · rename_i v
      exact h pc lk H locs (Or.inr (Or.inr (Or.inl ⟨hdg, Nat.eq_of_beq_eq_true hres, v, rfl⟩))) hM hS
    · exact h.elim
  | return_ =>
    dsimp only at h hres hn hdg
    have hn : n = 1 := hn.resolve_right (fun ⟨_, _, _, _, q⟩ => by cases q)
    subst hn
    split at h
    · exact h pc lk H locs (Or.inr (Or.inr (Or.inr ⟨hdg, Nat.eq_of_beq_eq_true hres, rfl⟩))) hM hS
    · exact h.elim
  | _ => exact h.elim
end STEP
end
section
/-! A run of the pure machine is a run of the machine. -/
set_option maxRecDepth 100000 in
theorem w_mTA : ∀ e ∈ mTab.filter (fun e => Nat.beq (mcL.getD e.2.2 99) 19), Cond.methodLink (cNm e.1) e.2.1 (mNm e.2.2) ∈ lw_tbl := map_p (f := fun (e : Nat × Nat × Nat) => Cond.methodLink (cNm e.1) e.2.1 (mNm e.2.2)) (mem_p [994, 1023, 1030, 1034, 1055, 1067, 1071, 1109, 1143, 1154, 1156] (by decide +kernel))
theorem mT_no171 : mTab.all (fun e => !(Nat.beq e.2.2 m_SB_length)) = true := by decide +kernel
theorem as_19 : asYs.all (fun y => Nat.beq (mcL.getD y 99) 19) = true := by decide +kernel
theorem as_of : (List.range nM).all (fun y => !(Nat.beq (mcL.getD y 99) 19) || (isIni y || asYs.contains y)) = true := by decide +kernel
theorem as_sp : asYs.all (fun y => apYs.contains y || (auYs.contains y || (Nat.beq y m_AB_appS || (Nat.beq y m_AB_appI || Nat.beq y m_AB_length)))) = true := by decide +kernel
theorem mkG_le1 {M : PM} {n k : Nat} : pSz M ≤ pSz (mkG M n k) := show pSz M ≤ pSz M + (1 + n) from Nat.le_add_right _ _
theorem mkG_le2 {M : PM} {n k : Nat} : pSl M ≤ pSl (mkG M n k) := show pSl M ≤ pSl M + (n + n * k) from Nat.le_add_right _ _
theorem as_virt : mTab.all (fun e => !(Nat.beq (mcL.getD e.2.2 99) 19) || (Nat.beq e.1 12 || (isIni e.2.2 || (apYs.contains e.2.2 || auYs.contains e.2.2)))) = true := by decide +kernel
theorem sel_priv {s : State} {args : Array Value} {C o name desc : String} {n : Nat} (hins : (Cond.instantiable C n).before args s = true) (hpriv : (Cond.privateMethod ⟨o, name, desc⟩).before args s = true) (hinst : (Cond.instanceMethod ⟨o, name, desc⟩).before args s = true) (hsame : (Cond.sameMethod o o name desc).before args s = true) :
    (Cond.selects C ⟨o, name, desc⟩ ⟨o, name, desc⟩).before args s = true := by
  obtain ⟨c, k, hc, hk, -, -, -, -⟩ := Cond.instantiable_spec hins
  obtain ⟨co, ck, r, h1, h2, h3, h4, h5⟩ := Cond.sameMethod_found hsame
  obtain ⟨mk, methM, hnamed, hmethM, -, -⟩ := Cond.instanceMethod_spec hinst
  cases h5.symm.trans hnamed
  have hcls : r.cls = co := Option.some.inj ((findClass_of_methodNamed hnamed).symm.trans h1)
  have hsel : selectMethod {} s.vm c r = .method r := selectMethod_private hmethM (Cond.privateMethod_at hpriv r methM hnamed hmethM)
  simp only [Cond.before, Cond.holds, Cond.value, hc, h4, hnamed, hsel, hcls, h2]
  simp
  exact h3
def GRo (M : PM) (o : (Nat × List PV × List PV × PM) ⊕ ((Option PV × PM) ⊕ (Nat × List PV × PM × Nat × List PV × List PV))) : Prop := match o with
  | .inl q => pSz M ≤ pSz q.2.2.2 ∧ pSl M ≤ pSl q.2.2.2
  | .inr (.inl q) => pSz M ≤ pSz q.2 ∧ pSl M ≤ pSl q.2
  | .inr (.inr q) => pSz M ≤ pSz q.2.2.1 ∧ pSl M ≤ pSl q.2.2.1
theorem gr_ite {c : Prop} {i : Decidable c} {x : OUT} {o} (h : @ite _ c i x none = some o) : x = some o := by
  by_cases hc : c
  · rwa [if_pos hc] at h
  · rw [if_neg hc] at h
    cases h
theorem gr_br {c : Prop} {i : Decidable c} {x y : OUT} {o} (h : @ite _ c i x y = some o) : x = some o ∨ y = some o := by
  by_cases hc : c
  · exact Or.inl (by rwa [if_pos hc] at h)
  · exact Or.inr (by rwa [if_neg hc] at h)
theorem gr_onR {r : Option Nat} {k : Nat → OUT} {o} (h : onR none r k = some o) : ∃ a, r = some a ∧ k a = some o := by
  cases r with
  | none => cases h
  | some a => exact ⟨a, rfl, h⟩
theorem gr_tsw {ls st : List PV} {M : PM} {x : Int32} {dflt : Nat} {o} : ∀ (l : List Nat) (lo : Int32), tsw (ρ := OUT) (fun c i a b => @ite _ c i a b) (fun t => some (.inl (t, ls, st, M))) x dflt lo l = some o → GRo M o
  | [], _, h => by
    cases h
    exact And.intro (Nat.le_refl _) (Nat.le_refl _)
  | t :: ts, lo, h => by
    rcases gr_br h with h | h
    · cases h
      exact And.intro (Nat.le_refl _) (Nat.le_refl _)
    · exact gr_tsw ts _ h
theorem gr_eq {M M' : PM} {a b c} {o} (h : (some (.inl (a, b, c, M')) : OUT) = some o) (h1 : pSz M ≤ pSz M') (h2 : pSl M ≤ pSl M') : GRo M o := by
  cases h
  exact And.intro h1 h2
theorem gr_rt {M : PM} {v} {o} (h : (some (.inr (.inl (v, M))) : OUT) = some o) : GRo M o := by
  cases h
  exact And.intro (Nat.le_refl _) (Nat.le_refl _)
theorem gr_cl {M : PM} {y as pc ls st} {o} (h : (some (.inr (.inr (y, as, M, pc, ls, st))) : OUT) = some o) : GRo M o := by
  cases h
  exact And.intro (Nat.le_refl _) (Nat.le_refl _)
set_option maxHeartbeats 8000000 in
theorem op_grow {X : PF} {mc : Nat → Nat} {d rk : Nat} {e : PE} {pc : Nat} {ls st : List PV} {M : PM} {o} (h : opF X mc d rk e pc ls st M = some o) : GRo M o := by
  unfold opF op at h
  obtain ⟨i, a, b, z, l⟩ := e
  cases i
  all_goals first
    | (cases h; done)
    | exact gr_eq h (Nat.le_refl _) (Nat.le_refl _)
    | exact gr_eq h (Nat.le_succ _) (Nat.le_add_right _ _)
    | (dsimp only at h
       repeat' split at h
       all_goals first
         | (cases h; done)
         | exact gr_eq h (Nat.le_refl _) (Nat.le_refl _)
         | exact gr_eq (gr_ite h) (Nat.le_refl _) (Nat.le_refl _)
         | exact gr_rt h
         | exact gr_rt (gr_ite h)
         | exact gr_cl h
         | exact gr_tsw _ _ h
         | (rcases gr_br h with h | h <;> exact gr_eq h (Nat.le_refl _) (Nat.le_refl _))
         | exact gr_eq (gr_ite h) (Nat.le_succ _) (Nat.le_add_right _ _)
         | exact gr_eq (gr_ite h) mkG_le1 mkG_le2
         | exact gr_eq h mkG_le1 mkG_le2
         | exact gr_eq h (Nat.le_succ _) (Nat.le_add_right _ _)
         | (obtain ⟨r, hr, h⟩ := gr_onR h
            first
              | exact gr_eq h (Nat.le_refl _) (Nat.le_refl _)
              | exact gr_eq (gr_ite h) (Nat.le_refl _) (Nat.le_refl _)
              | exact gr_eq (gr_ite (gr_ite h)) (Nat.le_refl _) (Nat.le_refl _)
              | exact gr_eq (gr_ite (gr_ite (gr_ite h))) (Nat.le_refl _) (Nat.le_refl _)
              | exact gr_eq (gr_ite h) (Nat.le_succ _) (Nat.le_add_right _ _)
              | exact gr_cl (gr_ite h)
              | (obtain ⟨r2, hr2, h2⟩ := gr_onR h
                 exact gr_eq (gr_ite (gr_ite h2)) (Nat.le_refl _) (Nat.le_refl _))
              | (have h := gr_ite h
                 repeat' split at h
                 all_goals first
                   | (cases h; done)
                   | exact gr_eq h (Nat.le_refl _) (Nat.le_refl _)
                   | exact gr_eq (gr_ite h) (Nat.le_refl _) (Nat.le_refl _)
                   | (have h := gr_ite h
                      repeat' split at h
                      all_goals first
                        | (cases h; done)
                        | exact gr_eq h (Nat.le_refl _) (Nat.le_refl _)
                        | exact gr_eq (gr_ite h) (Nat.le_refl _) (Nat.le_refl _)))))
theorem exec_grow : ∀ (n d y pc : Nat) (ls st : List PV) (M : PM) (v : Option PV) (M2 : PM), exec GG n d y pc ls st M = some (v, M2) → pSz M ≤ pSz M2 ∧ pSl M ≤ pSl M2 := by
  intro n
  induction n with
  | zero => intro d y pc ls st M v M2 h; cases h
  | succ n ih =>
    intro d y pc ls st M v M2 h
    unfold exec at h
    cases hc : GG.1 y pc with
    | none => rw [hc] at h; cases h
    | some e =>
      rw [hc] at h
      dsimp only at h
      cases ho : opF GG.2.2.2.2 GG.2.2.2.1 d (GG.2.1 y) e pc ls st M with
      | none => rw [ho] at h; cases h
      | some o =>
        have hg := op_grow ho
        rw [ho] at h
        try dsimp only at h
        obtain ⟨pc', ls', st', M'⟩ | r' | ⟨y', as, M', pc', ls', st'⟩ := o
        · have := ih _ _ _ _ _ _ _ _ h
          exact ⟨Nat.le_trans hg.1 this.1, Nat.le_trans hg.2 this.2⟩
        · cases h
          exact hg
        · cases d with
          | zero => cases h
          | succ d' =>
            dsimp only at h
            cases hr : exec GG n d' y' 0 (locE GG y' as) [] M' with
            | none => rw [hr] at h; cases h
            | some q =>
              rw [hr] at h
              obtain ⟨w, M1⟩ := q
              have h1 := ih _ _ _ _ _ _ _ _ hr
              have h2 := ih _ _ _ _ _ _ _ _ h
              exact ⟨Nat.le_trans hg.1 (Nat.le_trans h1.1 h2.1), Nat.le_trans hg.2 (Nat.le_trans h1.2 h2.2)⟩
/-- what a run is worth on the machine -/
def RunS (d y pc : Nat) (ls st : List PV) (M : PM) (v : Option PV) (M2 : PM) : Prop :=
  ∀ {p : Program} {l : Launch} {e : Env} {R : Room} {s : State} {m : MethodId} {args : Array Value} {below : List Frame} {meth : Method} {c : Code} {H : Heap} {locs : List Loc} {Q : State → Prop} {Γ : CX} {lk : Array Slot} {z0 l0 : Nat},
    p.tables.exec = Jvm.exec → c.code = mCd y → c.maxLocals = mxL.getD y 0 → s.vm.findClass (cNm (mcL.getD y 99)) = some m.cls → EO Γ s → EH Γ s s.heap → (isIni y = true → meth.name = "<init>") → d ≤ R.frames → 60 * d ≤ R.locals →
    z0 ≤ pSz M → l0 ≤ pSl M → pSz M2 - z0 ≤ R.cells → pSl M2 - l0 ≤ R.slots → LR Γ y ls lk → RelM Γ M H → va_S (AF Γ) s.heap H locs →
    (∀ (pc : Nat) (lk : Array Slot) (H : Heap) (locs : List Loc), retAt y pc v → RelM Γ M2 H → va_S (AF Γ) s.heap H locs → W p l e R s m args below meth c H locs (pSz M2 - z0) (pSl M2 - l0) Q (F0 m pc lk (v.toList.map (tvF Γ)))) →
    W p l e R s m args below meth c H locs (pSz M - z0) (pSl M - l0) Q (F0 m pc lk (st.map (tvF Γ)))
theorem lg1 {Γ : CX} : ∀ (as : List PV), as.all notL = true → lg_sl (as.map (tvF Γ)) = as.map (fun v => Slot.val (tvF Γ v))
  | [], _ => rfl
  | v :: as, h => by
    rw [List.all_cons, Bool.and_eq_true] at h
    have ih := lg1 (Γ := Γ) as h.2
    unfold lg_sl at ih ⊢
    rw [List.map_cons, List.flatMap_cons, ih, cat1 h.1]
    rfl
theorem LR.entry {Γ : CX} {y : Nat} {as : List PV} (h : as.all notL = true) (hn : as.length ≤ mxL.getD y 0) : LR Γ y (locE GG y as) ((lg_sl (as.map (tvF Γ)) ++ List.replicate (mxL.getD y 0 - (lg_sl (as.map (tvF Γ))).length) Slot.unset).toArray) := by
  have e1 : (lg_sl (as.map (tvF Γ))).length = as.length := by rw [lg1 as h, List.length_map]
  have hl := lv_entry (as.map (tvF Γ)) (n := mxL.getD y 0) (by rw [e1]; exact hn)
  have e2 : locE GG y as = as ++ List.replicate (mxL.getD y 0 - as.length) vT := rfl
  refine ⟨?_, hl.1, hl.2.1, fun i v hi hv => ?_, fun i z hi => ?_⟩
  · rw [e2, List.length_append, List.length_replicate]
    omega
  · rw [e2] at hi
    by_cases hlt : i < as.length
    · rw [List.getElem?_append_left hlt] at hi
      rw [List.getElem?_toArray, List.getElem?_append_left (by rw [e1]; exact hlt), lg1 as h, List.getElem?_map, hi]
      rfl
    · rw [List.getElem?_append_right (Nat.not_lt.mp hlt)] at hi
      exact absurd (List.eq_of_mem_replicate (List.mem_of_getElem? hi)) hv
  · rw [e2] at hi
    by_cases hlt : i < as.length
    · rw [List.getElem?_append_left hlt] at hi
      have := List.all_eq_true.mp h _ (List.mem_of_getElem? hi)
      cases this
    · rw [List.getElem?_append_right (Nat.not_lt.mp hlt)] at hi
      have := List.eq_of_mem_replicate (List.mem_of_getElem? hi)
      cases this
theorem va_S.trans' {A : Nat → Prop} {H0 H H1 : Heap} {locs L : List Loc} (h : va_S A H0 H locs) (h1 : va_S A H H1 []) (hL : ∀ q ∈ L, A q.base) : va_S A H0 H1 (locs ++ L) :=
  ⟨Nat.le_trans h.1 h1.1, fun q hq hA => (h1.2.1 q (Nat.lt_of_lt_of_le hq h.1) hA).trans (h.2.1 q hq hA), fun q hq => by
    rcases List.mem_append.mp hq with z | z
    · exact h.2.2 q z
    · exact hL q z⟩
abbrev c_pre (Γ : CX) (as : List PV) (M : PM) : Array Value → State → Prop := fun a U => a = (as.map (tvF Γ)).toArray ∧ EO Γ U ∧ EH Γ U U.heap ∧ RelM Γ M U.heap
abbrev c_post (Γ : CX) (v : Option PV) (M1 : PM) : Array Value → State → Outcome → State → Prop := fun _ st o t => o = .returned (v.map (tvF Γ)) ∧ RelM Γ M1 t.heap ∧ va_S (AF Γ) st.heap t.heap []
theorem c_pre_blind {Γ : CX} {as : List PV} {M : PM} : FrameBlind (c_pre Γ as M) := fun _ U _ _ q => ⟨q.1, q.2.1.warm (State.WarmedH.refl U), q.2.2.1.kept (Vm.Alike.refl _) (Nat.le_refl _) (fun _ _ _ => rfl), q.2.2.2⟩
theorem mFacts_spec {y : Nat} (h : y < nM) : mMx y = mxL.getD y 0 ∧ rkOf (mRt y) = rkL.getD y 9 ∧ (mNm y).cls = cNm (mcL.getD y 99) ∧ plainFor (mNm y) = true ∧ (mNm y).cls ≠ "java/lang/invoke/MethodHandle" ∧ (mNm y).cls ≠ "java/lang/invoke/VarHandle"
    ∧ (parseMethodDescriptor (mNm y).desc).map (fun d => d.parameters.length) = some (bif stL.getD y true then naL.getD y 0 else naL.getD y 0 - 1) ∧ (stL.getD y true = true → y ∈ stYs) ∧ (stL.getD y true = false → y ∈ inYs ∧ (y ∈ slYs ∨ isIni y = true ∨ y ∈ asYs ∨ y = m_SB_length)) ∧ mcL.getD y 99 < 21 ∧ naL.getD y 0 ≤ mxL.getD y 0 ∧ mxL.getD y 0 ≤ 40 ∧ (isIni y = true → mRt y = none) := by
  have := m_facts h
  unfold mFacts at this
  simp only [Bool.and_eq_true, decide_eq_true_eq] at this
  obtain ⟨⟨⟨⟨⟨⟨⟨⟨⟨⟨⟨h1, h2⟩, h3⟩, h4⟩, h5⟩, h6⟩, h7⟩, h8⟩, h9⟩, h10⟩, h11⟩, h12⟩ := this
  refine ⟨h1, h2, h3, h4, h5, h6, h7, fun q => ?_, fun q => ?_, by simpa using h9, Nat.le_of_ble_eq_true h10, Nat.le_of_ble_eq_true h11, fun q => ?_⟩
  · rw [q] at h8
    exact List.contains_iff_mem.mp h8
  · rw [q] at h8
    simp only [cond_false, Bool.and_eq_true, Bool.or_eq_true] at h8
    exact ⟨List.contains_iff_mem.mp h8.1, h8.2.imp (fun z => List.contains_iff_mem.mp z) (fun z => z.imp id (fun z => z.imp (fun z => List.contains_iff_mem.mp z) Nat.eq_of_beq_eq_true))⟩
  · rw [q] at h12
    simpa using h12
theorem nr_char {x : Int32} (h : (x.toUInt32 % 65536).toInt32 = x) : narrow .char (.int x) = .int x := by
  show Value.int x.toUInt32.toUInt16.toUInt32.toInt32 = _
  have : x.toUInt32.toUInt16.toUInt32 = x.toUInt32 % 65536 := by
    apply UInt32.toNat_inj.mp
    simp
  rw [this, h]
theorem nr_bool {x : Int32} (h : x = 0 ∨ x = 1) : narrow .boolean (.int x) = .int x := by
  rcases h with rfl | rfl <;> rfl
theorem met_of (l : Launch) (Γ : CX) {d y : Nat} {as : List PV} {M M1 : PM} {v : Option PV} (hy : y < nM) (hrun : RunS d y 0 (locE GG y as) [] M v M1) (has : as.all notL = true) (hn : as.length ≤ mxL.getD y 0) (hg : pSz M ≤ pSz M1 ∧ pSl M ≤ pSl M1) :
    Met l (mNm y) [Cond.code (mNm y) (cdM y) (mMx y) (mRt y)] { frames := d, cells := pSz M1 - pSz M, slots := pSl M1 - pSl M, locals := 60 * d } (c_pre Γ as M) (c_post Γ v M1) (pSz M1 - pSz M) (pSl M1 - pSl M) (AF Γ) := by
  obtain ⟨f1, f2, f3, f4, -, -, -, -, -, -, -, -, f13⟩ := mFacts_spec hy
  refine va_MetF (cc := cdM y) (maxL := mMx y) (ret := mRt y) f4 rfl ?_
  intro p e s m args below meth c s₁ B hml hv
  obtain ⟨rfl, hE, hH, hM⟩ := hv
  have hx := B.exec
  have hb := B.bytes
  have hr := B.returns
  have hlocks := B.notSynchronized
  have hown : s.vm.findClass (cNm (mcL.getD y 99)) = some m.cls := by rw [← f3]; exact findClass_of_methodNamed B.named
  have hbe : mCd y = cdM y := by
    unfold mCd
    have : Nat.beq y m_law = false := by
      cases hq : Nat.beq y m_law with
      | false => rfl
      | true =>
        have := Nat.eq_of_beq_eq_true hq
        have h268 : m_law = 268 := rfl
        have h2 : nM = 268 := rfl
        omega
    rw [this]
    rfl
  rw [f1] at hml
  rw [f1, lg_entry_eq]
  have hlr := LR.entry (Γ := Γ) (y := y) has hn
  generalize (lg_sl (as.map (tvF Γ)) ++ List.replicate (mxL.getD y 0 - (lg_sl (as.map (tvF Γ))).length) Slot.unset).toArray = lk at hlr ⊢
  have hk := hrun (p := p) (l := l) (e := e) (R := { frames := d, cells := pSz M1 - pSz M, slots := pSl M1 - pSl M, locals := 60 * d }) (s := s) (m := m) (args := (as.map (tvF Γ)).toArray) (below := below) (meth := meth) (c := c) (H := s.heap) (locs := []) (Q := MQ below (c_post Γ v M1) (as.map (tvF Γ)).toArray s (pSz M1 - pSz M) (pSl M1 - pSl M) (AF Γ)) (Γ := Γ) (lk := lk) (z0 := pSz M) (l0 := pSl M)
    hx (by rw [hb, hbe]) hml hown hE hH (fun q => by rw [(name_of_methodNamed B.named B.method).1]; exact eq_of_beq q) (Nat.le_refl _) (Nat.le_refl _) (Nat.le_refl _) (Nat.le_refl _) (Nat.le_refl _) (Nat.le_refl _) hlr hM va_S.rf ?_
  · rw [Nat.sub_self, Nat.sub_self] at hk
    exact hk
  · intro pc lk H locs hret hM1 hS1
    have hq : ∀ t : State, t.heap = H → RelM Γ M1 t.heap ∧ va_S (AF Γ) s.heap t.heap [] := fun t ht => by rw [ht]; exact ⟨hM1, hS1.1, hS1.2.1, fun q hq => absurd hq List.not_mem_nil⟩
    have hb2 : c.code = mCd y := by rw [hb, hbe]
    rcases hret with ⟨hd, x, rfl, hv⟩ | ⟨hd, hk5, z, rfl⟩ | ⟨hd, hk6, r, rfl⟩ | ⟨hd, hk0, rfl⟩
    · have hrk : ∃ ty, mRt y = some ty ∧ narrow ty (.int x) = .int x := by
        have e9 : rkL.getD y 9 = rkL.getD y 0 := by
          cases hq : rkL[y]? with
          | none =>
            rw [List.getD_eq_getElem?_getD, hq] at hv
            exact hv.elim
          | some w => rw [List.getD_eq_getElem?_getD, List.getD_eq_getElem?_getD, hq]; rfl
        rw [e9] at f2
        rw [← f2] at hv
        cases hq : mRt y with
        | none => rw [hq] at hv; exact hv.elim
        | some ty =>
          rw [hq] at hv
          refine ⟨ty, rfl, ?_⟩
          cases ty with
          | int => rfl
          | boolean => exact nr_bool hv
          | char => exact nr_char hv
          | byte => exact congrArg Value.int hv
          | _ => exact hv.elim
      obtain ⟨ty, e1, e2⟩ := hrk
      exact W.zret (ty := ty) hx hb2 (by rw [hr, e1]) e2 (fun t ht _ => ⟨rfl, hq t ht⟩) hS1.2.2 hd
    · have e1 : mRt y = some .long := by
        rw [hk5] at f2
        cases hq : mRt y with
        | none => rw [hq] at f2; cases f2
        | some ty =>
          rw [hq] at f2
          cases ty <;> first | rfl | cases f2
      exact W.lret hx hb2 (by rw [hr, e1]) (fun t ht _ => ⟨rfl, hq t ht⟩) hS1.2.2 hd
    · have e1 : ∃ rt, mRt y = some rt ∧ ((∃ n, rt = .object n) ∨ ∃ t, rt = .array t) := by
        rw [hk6] at f2
        cases hq : mRt y with
        | none => rw [hq] at f2; cases f2
        | some ty =>
          rw [hq] at f2
          refine ⟨ty, rfl, ?_⟩
          cases ty <;> first | exact Or.inl ⟨_, rfl⟩ | exact Or.inr ⟨_, rfl⟩ | cases f2
      obtain ⟨rt, e1, e2⟩ := e1
      refine W.aret (rt := rt) (v := tvF Γ (vR r)) hx hb2 (by rw [hr, e1]) e2 ?_ (fun t ht _ => ⟨rfl, hq t ht⟩) hS1.2.2 hd
      cases r with
      | none => exact Or.inl rfl
      | some a => exact Or.inr ⟨_, rfl⟩
    · have e1 : mRt y = none := by
        rw [hk0] at f2
        cases hq : mRt y with
        | none => rfl
        | some ty => rw [hq] at f2; cases ty <;> cases f2
      exact W.vret hx hb2 (by rw [hr, e1]) (fun t ht _ => ⟨rfl, hq t ht⟩) hS1.2.2 hd
section CALL
variable {p : Program} {l : Launch} {e : Env} {R : Room} {s : State} {m : MethodId} {args : Array Value} {below : List Frame} {meth : Method} {c : Code} {H : Heap} {locs : List Loc} {Q : State → Prop}
variable {Γ : CX} {lk : Array Slot} {M M1 : PM}
theorem recvK (hE : EO Γ s) (hH : EH Γ s s.heap) (hM : RelM Γ M H) (hS : va_S (AF Γ) s.heap H locs) {a k : Nat} (ha : pKd M a = k) (hk : k < 14) : ∃ cellB : Cell, H[adF Γ a]? = some cellB ∧ cellB.vm.isStatics = false ∧ s.vm.findClass (cNm k) = some cellB.cls := by
  have hob : nwP Γ a → ∃ cellB : Cell, H[adF Γ a]? = some cellB ∧ cellB.vm.isStatics = false ∧ s.vm.findClass (cNm k) = some cellB.cls := fun hn => by
    obtain ⟨T, N, ty, hc, -⟩ := clF_all hE _ hk
    obtain ⟨cell, q1, q2, q3, q4⟩ := hM.obj ha hk hn
    obtain ⟨hSl, hfc, -⟩ := hE.2.1.1 _ _ hc
    exact ⟨cell, q1, by rw [q3]; rfl, by rw [q2]; exact hfc⟩
  rcases Nat.lt_or_ge k 13 with h13 | h13
  · exact hob (hM.nw13 (by omega))
  · obtain rfl : k = 13 := by omega
    rcases hM.str ha with ⟨hn, -⟩ | ⟨j, hj, rfl⟩
    · exact hob hn
    · have hp := plS_lt hj
      obtain ⟨g1, -⟩ := hH.1 j hj
      obtain ⟨cell, c1, c2, c3, -⟩ := g1.kept hS.2.1
      rw [adF_old (by omega) (by omega) hM.2.2.2.2.2.2]
      exact ⟨cell, c1, c2, c3⟩
set_option maxHeartbeats 4000000 in
theorem call_ok {d y y' pc : Nat} {as ls st : List PV} {w : Option PV} (hca : callAt y pc y' as M) (hrun : RunS d y' 0 (locE GG y' as) [] M w M1) (hg : pSz M ≤ pSz M1 ∧ pSl M ≤ pSl M1)
    (hx : p.tables.exec = Jvm.exec) (hb : c.code = mCd y) (hml : c.maxLocals = mxL.getD y 0) (hown : s.vm.findClass (cNm (mcL.getD y 99)) = some m.cls) (hE : EO Γ s) (hH : EH Γ s s.heap) (hd1 : d + 1 ≤ R.frames) (hd2 : 60 * (d + 1) ≤ R.locals) {z0 l0 : Nat}
    (hz : z0 ≤ pSz M) (hl0 : l0 ≤ pSl M) (hc1 : pSz M1 - z0 ≤ R.cells) (hc2 : pSl M1 - l0 ≤ R.slots) (hst : st.length ≤ 4) (hLR : LR Γ y ls lk) (hM : RelM Γ M H) (hS : va_S (AF Γ) s.heap H locs)
    (kk : ∀ (H1 : Heap) (locs1 : List Loc), RelM Γ M1 H1 → va_S (AF Γ) s.heap H1 locs1 → W p l e R s m args below meth c H1 locs1 (pSz M1 - z0) (pSl M1 - l0) Q (F0 m (pc + 3) lk ((w.toList ++ st).map (tvF Γ)))) :
    W p l e R s m args below meth c H locs (pSz M - z0) (pSl M - l0) Q (F0 m pc lk ((as.reverse ++ st).map (tvF Γ))) := by
  obtain ⟨has, hlen, i, hcase⟩ := hca
  have hy : y' < nM := by
    rcases hcase with ⟨hmem, -⟩ | ⟨hmem, -⟩ | ⟨hmem, -⟩ | ⟨hmem, -⟩ | ⟨hmem, -⟩ | ⟨hmem, -⟩
    · exact mT_lt hmem
    · exact mT_lt hmem
    · exact mT_lt hmem
    · exact mT_lt hmem
    · have e : y' = m_SB_length := (Prod.mk.inj (Prod.mk.inj (uT_eq hmem)).2).2
      rw [e]
      decide
    · exact mT_lt hmem
  obtain ⟨f1, f2, f3, f4, f5, f6, f7, f8, f9, f10, f11, f12, f13⟩ := mFacts_spec (y := y') hy
  have met := met_of l Γ hy hrun has (by rw [hlen]; exact f11) hg
  have hcat := catsum (Γ := Γ) st
  have hrm : 2 * (F0 m pc lk ((as.reverse ++ st).map (tvF Γ))).monitorRoom + ((st.map (tvF Γ)).map fun v => v.category).sum ≤ 8 := by
    show 2 * 0 + _ ≤ 8
    omega
  have hcells : pSz M - z0 + (pSz M1 - pSz M) ≤ R.cells ∧ pSl M - l0 + (pSl M1 - pSl M) ≤ R.slots := by omega
  have hlo : 8 + (mMx y' + 11) + 60 * d ≤ R.locals := by rw [f1]; omega
  have hwsw : ∀ w ∈ [Cond.code (mNm y') (cdM y') (mMx y') (mRt y')], ∀ (a' : Array Value) (U : State), s.WarmedH U.vm → w.before a' U = true := fun w hw a' U hW => by
    obtain rfl := List.mem_singleton.mp hw
    exact (hE.warm hW).1 _ (w_code hy) rfl a'
  have hcd : (Cond.code (mNm y') (cdM y') (mMx y') (mRt y')).before args s = true := hE.1 _ (w_code hy) rfl args
  have hini : (Cond.initialized (mNm y').cls).before args s = true := by rw [f3]; exact hE.1 _ (w_init f10) rfl args
  have hstk : (as.reverse ++ st).map (tvF Γ) = (as.map (tvF Γ)).reverse ++ st.map (tvF Γ) := by rw [List.map_append, List.map_reverse]
  have hsz : (F0 m pc lk ((as.reverse ++ st).map (tvF Γ))).locals.size = c.maxLocals := by rw [hml]; exact hLR.2.1
  have hpc : ∀ U : State, U.heap = H → s.WarmedH U.vm → c_pre Γ as M (as.map (tvF Γ)).toArray U := fun U hU hW => ⟨rfl, hE.warm hW, by rw [hU]; exact hH.kept hW.alike hS.1 hS.2.1, by rw [hU]; exact hM⟩
  have hkk : ∀ (v : Option Value) (st₀ t : State) (L : List Loc), st₀.heap = H → (∀ q ∈ L, AF Γ q.base) → c_post Γ w M1 #[] st₀ (.returned v) t → s.vm.Alike t.vm → W p l e R s m args below meth c t.heap (locs ++ L) (pSz M - z0 + (pSz M1 - pSz M)) (pSl M - l0 + (pSl M1 - pSl M)) Q (F0 m (pc + 3) lk (v.toList ++ st.map (tvF Γ))) := fun v st₀ t L h0 hL hq _ => by
    obtain ⟨q1, q2, q3⟩ := hq
    cases q1
    rw [h0] at q3
    have hk := kk t.heap (locs ++ L) q2 (hS.trans' q3 hL)
    rw [show pSz M - z0 + (pSz M1 - pSz M) = pSz M1 - z0 by omega, show pSl M - l0 + (pSl M1 - pSl M) = pSl M1 - l0 by omega]
    have e1 : (w.map (tvF Γ)).toList ++ st.map (tvF Γ) = (w.toList ++ st).map (tvF Γ) := by cases w <;> rfl
    rw [e1]
    exact hk
  rcases hcase with ⟨hmem, hdg, hst2⟩ | ⟨hmem, hdg, hst2, hni, h14, a, as', rfl, hka⟩ | ⟨hmem, hdg, hst2, hii, a, as', rfl⟩ | ⟨hmem, hdg, hst2, hni, h19, hown12, a, as', rfl, hka⟩ | ⟨hmem, hdg, a, as', rfl, hka⟩ | ⟨hmem, ho12, hdg, hst2, hni, h19, a, as', rfl, hka⟩
  · obtain ⟨b, hw⟩ := w_mT _ hmem
    have har : ∀ sig, parseMethodDescriptor (mNm y').desc = some sig → naL.getD y' 0 = sig.parameters.length := fun sig h => by
      rw [h] at f7
      have hT : stL.getD y' true = true := by
        rw [List.getD_eq_getElem?_getD] at hst2 ⊢
        cases hq : stL[y']? with
        | none => rfl
        | some z => rw [hq] at hst2; exact hst2
      rw [hT] at f7
      exact (Option.some.inj f7).symm
    have hT : stL.getD y' true = true := by
      rw [List.getD_eq_getElem?_getD] at hst2 ⊢
      cases hq : stL[y']? with
      | none => rfl
      | some z => rw [hq] at hst2; exact hst2
    have hsm := hE.1 _ (w_stat _ (f8 hT)) rfl args
    cases b with
    | false =>
      exact callW (va_runS (Ts := []) (nL := c.maxLocals) (own := cNm (mcL.getD y 99)) (n := naL.getD y' 0) (As := as.map (tvF Γ)) (rest := st.map (tvF Γ)) ⟨hx, hb, rfl, hown, fun _ h => absurd h List.not_mem_nil⟩ met
        ⟨⟨rfl, rfl, hd1, hlo, hwsw, List.mem_singleton.mpr rfl, hcd, hini, ⟨f5, f6⟩, har, hE.1 _ hw rfl args⟩, hsm⟩ ⟨c_pre_blind, hpc⟩ rfl (by rw [List.length_map]; exact hlen) hsz hstk hrm hdg hcells) hkk
    | true =>
      exact callW (va_runSN (Ts := []) (nL := c.maxLocals) (own := cNm (mcL.getD y 99)) (host := "StockEvents") (n := naL.getD y' 0) (As := as.map (tvF Γ)) (rest := st.map (tvF Γ)) ⟨hx, hb, rfl, hown, fun _ h => absurd h List.not_mem_nil⟩ met
        ⟨⟨⟨rfl, rfl, hd1, hlo, hwsw, List.mem_singleton.mpr rfl⟩, hcd, hini, ⟨f5, f6⟩, har, hE.1 _ hw rfl args⟩, hsm, trivial⟩ ⟨c_pre_blind, hpc⟩ rfl (by rw [List.length_map]; exact hlen) hsz hstk hrm hdg hcells) hkk
  · obtain ⟨b, hw⟩ := w_mT _ hmem
    have har : ∀ sig, parseMethodDescriptor (mNm y').desc = some sig → as'.length = sig.parameters.length := fun sig h => by
      rw [h, hst2] at f7
      have := Option.some.inj f7
      simp only [cond_false] at this
      rw [List.length_cons] at hlen
      omega
    have hiy := f9 hst2
    have hsl : y' ∈ slYs := by
      rcases hiy.2 with q | q | q | q
      · exact q
      · rw [hni] at q
        cases q
      · have := Nat.eq_of_beq_eq_true (List.all_eq_true.mp as_19 _ q)
        omega
      · have := List.all_eq_true.mp mT_no171 _ hmem
        simp only [q] at this
        exact absurd this (by simp)
    have hsm := hE.1 _ (w_inst _ hiy.1) rfl args
    have hse := hE.1 _ (w_sel _ hsl) rfl args
    have hrv := recvK hE hH hM hS hka h14
    have hstk2 : (((vR (some a)) :: as').reverse ++ st).map (tvF Γ) = (as'.map (tvF Γ)).reverse ++ Value.ref (adF Γ a) :: st.map (tvF Γ) := by
      rw [hstk, List.map_cons, List.reverse_cons, List.append_assoc]
      rfl
    cases b with
    | false =>
      exact callW (va_runV (Ts := []) (nL := c.maxLocals) (own := cNm (mcL.getD y 99)) (C := cNm (mcL.getD y' 99)) (b := adF Γ a) (n := as'.length) (As := as'.map (tvF Γ)) (rest := st.map (tvF Γ)) ⟨hx, hb, rfl, hown, fun _ h => absurd h List.not_mem_nil⟩ met
        ⟨⟨rfl, rfl, hd1, hlo, hwsw, List.mem_singleton.mpr rfl, hcd, hini, ⟨f5, f6⟩, har, hE.1 _ hw rfl args⟩, hsm, hse⟩ ⟨c_pre_blind, hrv, hpc⟩ rfl (List.length_map ..) hsz hstk2 hrm hdg hcells) hkk
    | true =>
      exact callW (va_runVN (Ts := []) (nL := c.maxLocals) (own := cNm (mcL.getD y 99)) (host := "StockEvents") (C := cNm (mcL.getD y' 99)) (b := adF Γ a) (n := as'.length) (As := as'.map (tvF Γ)) (rest := st.map (tvF Γ)) ⟨hx, hb, rfl, hown, fun _ h => absurd h List.not_mem_nil⟩ met
        ⟨⟨⟨rfl, rfl, hd1, hlo, hwsw, List.mem_singleton.mpr rfl⟩, hcd, hini, ⟨f5, f6⟩, har, hE.1 _ hw rfl args⟩, hsm, hse⟩ ⟨c_pre_blind, hrv, hpc⟩ rfl (List.length_map ..) hsz hstk2 hrm hdg hcells) hkk
  · obtain ⟨b, hw⟩ := w_mT _ hmem
    have har : ∀ sig, parseMethodDescriptor (mNm y').desc = some sig → as'.length = sig.parameters.length := fun sig h => by
      rw [h, hst2] at f7
      have := Option.some.inj f7
      simp only [cond_false] at this
      rw [List.length_cons] at hlen
      omega
    have hiy := f9 hst2
    have hsm := hE.1 _ (w_inst _ hiy.1) rfl args
    have hnm : (mNm y').name = "<init>" := eq_of_beq hii
    have hnone := f13 hii
    rw [hnone] at met hwsw hcd
    have hstk2 : (((vR (some a)) :: as').reverse ++ st).map (tvF Γ) = (as'.map (tvF Γ)).reverse ++ Value.ref (adF Γ a) :: st.map (tvF Γ) := by
      rw [hstk, List.map_cons, List.reverse_cons, List.append_assoc]
      rfl
    cases b with
    | false =>
      exact callW (va_runI (Ts := []) (nL := c.maxLocals) (own := cNm (mcL.getD y 99)) (b := adF Γ a) (n := as'.length) (As := as'.map (tvF Γ)) (rest := st.map (tvF Γ)) ⟨hx, hb, rfl, hown, fun _ h => absurd h List.not_mem_nil⟩ met
        ⟨⟨rfl, rfl, hd1, hlo, hwsw, List.mem_singleton.mpr rfl, hcd, hini, ⟨f5, f6⟩, har, hE.1 _ hw rfl args⟩, hnm, hsm⟩ ⟨c_pre_blind, hpc⟩ rfl (List.length_map ..) hsz hstk2 hrm hdg hcells) hkk
    | true =>
      exact callW (va_runIN (Ts := []) (nL := c.maxLocals) (own := cNm (mcL.getD y 99)) (host := "StockEvents") (b := adF Γ a) (n := as'.length) (As := as'.map (tvF Γ)) (rest := st.map (tvF Γ)) ⟨hx, hb, rfl, hown, fun _ h => absurd h List.not_mem_nil⟩ met
        ⟨⟨⟨rfl, rfl, hd1, hlo, hwsw, List.mem_singleton.mpr rfl⟩, hcd, hini, ⟨f5, f6⟩, har, hE.1 _ hw rfl args⟩, hnm, hsm⟩ ⟨c_pre_blind, hpc⟩ rfl (List.length_map ..) hsz hstk2 hrm hdg hcells) hkk
  · -- inherited
    have har : ∀ sig, parseMethodDescriptor (mNm y').desc = some sig → as'.length = sig.parameters.length := fun sig h => by
      rw [h, hst2] at f7
      have := Option.some.inj f7
      simp only [cond_false] at this
      rw [List.length_cons] at hlen
      omega
    have hiy := f9 hst2
    have hasY : y' ∈ asYs := by
      have := List.all_eq_true.mp as_of y' (List.mem_range.mpr hy)
      rw [h19, hni] at this
      simpa using this
    have hcls : (mNm y').cls = "java/lang/AbstractStringBuilder" := by rw [f3, h19]; rfl
    have hsame := hE.1 _ (w_aSame _ hasY) rfl args
    have hsm := hE.1 _ (w_inst _ hiy.1) rfl args
    have hlink : (Cond.methodLink (cNm (mcL.getD y 99)) i (mNm y')).before args s = true := hE.1 _ (w_mTA _ (List.mem_filter.mpr ⟨hmem, by rw [h19]; rfl⟩)) rfl args
    have hself : (⟨"java/lang/AbstractStringBuilder", (mNm y').name, (mNm y').desc⟩ : MethodName) = mNm y' := by rw [← hcls]
    have hsel : (Cond.selects "java/lang/StringBuilder" (mNm y') (mNm y')).before args s = true := by
      have := List.all_eq_true.mp as_virt _ hmem
      rw [h19] at this
      simp only [hni] at this
      have h12 : Nat.beq (mcL.getD y 99) 12 = false := by
        cases hq : Nat.beq (mcL.getD y 99) 12 with
        | false => rfl
        | true => exact absurd (Nat.eq_of_beq_eq_true hq) hown12
      rw [h12] at this
      have this : apYs.contains y' = true ∨ auYs.contains y' = true := by simpa using this
      rcases this with q | q
      · exact hE.2.2.2.2.2.2.2.2.2.2 _ (List.contains_iff_mem.mp q) args
      · exact hE.1 _ (w_aSel _ (List.contains_iff_mem.mp q)) rfl args
    have hrv := recvK hE hH hM hS hka (by decide)
    have hstk2 : (((vR (some a)) :: as').reverse ++ st).map (tvF Γ) = (as'.map (tvF Γ)).reverse ++ Value.ref (adF Γ a) :: st.map (tvF Γ) := by
      rw [hstk, List.map_cons, List.reverse_cons, List.append_assoc]
      rfl
    exact callW (va_runU (Ts := []) (nL := c.maxLocals) (own := cNm (mcL.getD y 99)) (C := "java/lang/StringBuilder") (owner := "java/lang/AbstractStringBuilder") (x := mNm y') (b := adF Γ a) (n := as'.length) (As := as'.map (tvF Γ)) (rest := st.map (tvF Γ)) ⟨hx, hb, rfl, hown, fun _ h => absurd h List.not_mem_nil⟩ met
      ⟨⟨rfl, rfl, hd1, hlo, hwsw, List.mem_singleton.mpr rfl⟩, hcd, hini, ⟨by decide, by decide⟩, har, hlink, hsame, by rw [hself]; exact va_Decl.of hsm hcd, hsel, hsm⟩ ⟨c_pre_blind, hrv, hpc⟩ rfl (List.length_map ..) hsz hstk2 hrm hdg hcells) hkk
  · -- under another name
    obtain ⟨e1, e2⟩ := Prod.mk.inj (uT_eq hmem)
    obtain ⟨e2, e3⟩ := Prod.mk.inj e2
    subst e2 e3
    have hst2 : stL.getD m_SB_length true = false := by decide +kernel
    have har : ∀ sig, parseMethodDescriptor (mNm m_SB_length).desc = some sig → as'.length = sig.parameters.length := fun sig h => by
      rw [h, hst2] at f7
      have := Option.some.inj f7
      simp only [cond_false] at this
      rw [List.length_cons] at hlen
      omega
    have hiy := f9 hst2
    have hsm := hE.1 _ (w_inst _ hiy.1) rfl args
    have hsm2 : (Cond.instanceMethod ⟨"java/lang/AbstractStringBuilder", "length", "()I"⟩).before args s = true := hE.1 _ (w_inst m_AB_length (by decide +kernel)) rfl args
    have hcd2 : (Cond.code ⟨"java/lang/AbstractStringBuilder", "length", "()I"⟩ (cdM m_AB_length) (mMx m_AB_length) (mRt m_AB_length)).before args s = true := hE.1 _ (w_code (y := m_AB_length) (by decide)) rfl args
    have hsame : (Cond.sameMethod "java/lang/AbstractStringBuilder" "java/lang/AbstractStringBuilder" "length" "()I").before args s = true := hE.1 _ (w_aSame m_AB_length (by decide +kernel)) rfl args
    have hlink : (Cond.methodLink (cNm (mcL.getD y 99)) 549 ⟨"java/lang/AbstractStringBuilder", "length", "()I"⟩).before args s = true := by rw [e1]; exact hE.1 _ w_uL rfl args
    have hrv := recvK hE hH hM hS hka (by decide)
    have hstk2 : (((vR (some a)) :: as').reverse ++ st).map (tvF Γ) = (as'.map (tvF Γ)).reverse ++ Value.ref (adF Γ a) :: st.map (tvF Γ) := by
      rw [hstk, List.map_cons, List.reverse_cons, List.append_assoc]
      rfl
    exact callW (va_runU (Ts := []) (nL := c.maxLocals) (own := cNm (mcL.getD y 99)) (C := "java/lang/StringBuilder") (owner := "java/lang/AbstractStringBuilder") (x := ⟨"java/lang/AbstractStringBuilder", "length", "()I"⟩) (b := adF Γ a) (n := as'.length) (As := as'.map (tvF Γ)) (rest := st.map (tvF Γ)) ⟨hx, hb, rfl, hown, fun _ h => absurd h List.not_mem_nil⟩ met
      ⟨⟨rfl, rfl, hd1, hlo, hwsw, List.mem_singleton.mpr rfl⟩, hcd, hini, ⟨by decide, by decide⟩, har, hlink, hsame, va_Decl.of hsm2 hcd2, hE.1 _ w_uSel rfl args, hsm⟩ ⟨c_pre_blind, hrv, hpc⟩ rfl (List.length_map ..) hsz hstk2 hrm hdg hcells) hkk
  · -- the superclass's own
    have har : ∀ sig, parseMethodDescriptor (mNm y').desc = some sig → as'.length = sig.parameters.length := fun sig h => by
      rw [h, hst2] at f7
      have := Option.some.inj f7
      simp only [cond_false] at this
      rw [List.length_cons] at hlen
      omega
    have hiy := f9 hst2
    have hasY : y' ∈ asYs := by
      have := List.all_eq_true.mp as_of y' (List.mem_range.mpr hy)
      rw [h19, hni] at this
      simpa using this
    have hcls : (mNm y').cls = "java/lang/AbstractStringBuilder" := by rw [f3, h19]; rfl
    have hsame := hE.1 _ (w_aSame _ hasY) rfl args
    have hsm := hE.1 _ (w_inst _ hiy.1) rfl args
    have hlink : (Cond.methodLink (cNm (mcL.getD y 99)) i (mNm y')).before args s = true := hE.1 _ (w_mTA _ (List.mem_filter.mpr ⟨hmem, by rw [h19]; rfl⟩)) rfl args
    have hno : (mNm y').name ≠ "<init>" := fun q => by
      have : isIni y' = true := by unfold isIni; rw [q]; rfl
      rw [hni] at this
      cases this
    obtain ⟨T, N, ty, hcl, -⟩ := clF_all hE 12 (by decide)
    have hat := (hE.2.1.1 _ _ hcl).2
    have hrv := recvK hE hH hM hS hka (by decide)
    have hstk2 : (((vR (some a)) :: as').reverse ++ st).map (tvF Γ) = (as'.map (tvF Γ)).reverse ++ Value.ref (adF Γ a) :: st.map (tvF Γ) := by
      rw [hstk, List.map_cons, List.reverse_cons, List.append_assoc]
      rfl
    exact callW (va_runSU (Ts := []) (nL := c.maxLocals) (own := cNm (mcL.getD y 99)) (C := "java/lang/StringBuilder") (cC := (cxD Γ).1 12) (b := adF Γ a) (n := as'.length) (As := as'.map (tvF Γ)) (rest := st.map (tvF Γ)) hat ⟨hx, hb, rfl, hown, fun _ h => absurd h List.not_mem_nil⟩ met
      ⟨⟨rfl, rfl, hd1, hlo, hwsw, List.mem_singleton.mpr rfl⟩, hlink, by rw [hcls] at hsame ⊢; exact hsame, by rw [hcls, ho12]; exact hE.1 _ w_sup rfl args, hsm, hini, hcd, hno, har⟩ ⟨c_pre_blind, hrv, hpc⟩ rfl (List.length_map ..) hsz hstk2 hrm hdg hcells) hkk
end CALL
set_option maxHeartbeats 4000000 in
theorem run_ok : ∀ (n d y pc : Nat) (ls st : List PV) (M : PM) (v : Option PV) (M2 : PM), exec GG n d y pc ls st M = some (v, M2) → RunS d y pc ls st M v M2 := by
  intro n
  induction n with
  | zero => intro d y pc ls st M v M2 h; cases h
  | succ n ih =>
    intro d y pc ls st M v M2 h p l e R s m args below meth c H locs Q Γ lk z0 l0 hx hb hml hown hE hH hini hd1 hd2 hz hl0 hc1 hc2 hLR hM hS K
    have hgr := exec_grow _ _ _ _ _ _ _ _ _ h
    unfold exec at h
    cases hc : GG.1 y pc with
    | none => rw [hc] at h; cases h
    | some e0 =>
      rw [hc] at h
      dsimp only at h
      cases ho : opF GG.2.2.2.2 GG.2.2.2.1 d (GG.2.1 y) e0 pc ls st M with
      | none => rw [ho] at h; cases h
      | some o =>
        have hg := op_grow ho
        rw [ho] at h
        try dsimp only at h
        refine step_ok hc hx hb hml hown hE hH hini hd1 hd2 (z0 := z0) (l0 := l0) ?_ hz hl0 hLR hM hS
        rw [show opF XF (fun y => rcL.getD y 99) d (rkL.getD y 0) e0 pc ls st M = some o from ho]
        obtain ⟨pc', ls', st', M'⟩ | r' | ⟨y', as, M', pc', ls', st'⟩ := o
        · have hg2 := exec_grow _ _ _ _ _ _ _ _ _ h
          have hg1 : pSz M ≤ pSz M' ∧ pSl M ≤ pSl M' := hg
          refine And.intro ⟨by omega, by omega⟩ ?_
          intro lk' H' locs' hLR' hM' hS'
          exact ih _ _ _ _ _ _ _ _ h hx hb hml hown hE hH hini hd1 hd2 (by omega) (by omega) hc1 hc2 hLR' hM' hS' K
        · cases h
          intro pc' lk' H' locs' hr hM' hS'
          exact K pc' lk' H' locs' hr hM' hS'
        · cases d with
          | zero => cases h
          | succ d' =>
            dsimp only at h
            have hg1 : pSz M ≤ pSz M' ∧ pSl M ≤ pSl M' := hg
            cases hr : exec GG n d' y' 0 (locE GG y' as) [] M' with
            | none => rw [hr] at h; cases h
            | some q =>
              rw [hr] at h
              obtain ⟨w, M1⟩ := q
              dsimp only at h
              have hg2 := exec_grow _ _ _ _ _ _ _ _ _ hr
              have hg3 := exec_grow _ _ _ _ _ _ _ _ _ h
              intro pc2 lk' H' locs' hpc hca hst hLR' hM' hS'
              subst hpc
              refine call_ok hca (ih _ _ _ _ _ _ _ _ hr) hg2 hx hb hml hown hE hH hd1 hd2 (by omega) (by omega) (by omega) (by omega) hst hLR' hM' hS' ?_
              intro H1 locs1 hM1 hS1
              exact ih _ _ _ _ _ _ _ _ h hx hb hml hown hE hH hini hd1 hd2 (by omega) (by omega) hc1 hc2 hLR' hM1 hS1 K
end
